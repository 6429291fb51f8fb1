section
variable {M : Mem} {p : Nat} {g : Pg} {s : Sg}

def ndS (g : Pg) (h : Nat) : Nat → Int32 × Int32 := bsP upN (fun i => !decide (i = h)) (fun i => abI (gStr g i - gStr g h)) 31
theorem upNt {v k : Int32} : upN v k = true ↔ ¬ v ≤ k := by unfold upN; simp
theorem upXt {v k : Int32} : upX v k = true ↔ ¬ k ≤ v := by unfold upX; simp
theorem CQ.nextD (c : CQ M p g s) {h : Nat} (hh : h < gH g) : F_X8_nextDoor 0 (nI h) M = some (ndS g h (gH g)).1 := by
  have g1 := c.gp.1
  unfold F_X8_nextDoor
  have e := loop_p (step := fun z : Int32 × Int32 × Int32 => F_X8_nextDoor_s8 0 (nI h) M z.1 z.2.1 z.2.2) (fun i a => (a.1, a.2, nI i)) (fun i a => if (!decide (i = h)) && upN a.2 (abI (gStr g i - gStr g h)) then (nI i, abI (gStr g i - gStr g h)) else a) ((-1 : Int32), (31 : Int32)) (gH g) (r := (ndS g h (gH g)).1) (by
    intro i hi
    unfold F_X8_nextDoor_s8
    simp only [c.pp, ob_t, c.nH, if_neg (nI_ge hi (show gH g < 2 ^ 31 by omega)), c.sS, c.str hi, c.str hh, nI_1, nI_eq (show i < 2 ^ 31 by omega) (show h < 2 ^ 31 by omega)]
    generalize itN _ _ i = a
    by_cases c1 : i = h
    · rw [if_pos c1]; simp [c1]
    · rw [if_neg c1]
      by_cases c2 : a.2 ≤ abI (gStr g i - gStr g h)
      · rw [if_pos c2]; simp [c1, upN, c2]
      · rw [if_neg c2]; simp [c1, upN, c2]) (by
    unfold F_X8_nextDoor_s8
    simp only [c.pp, ob_t, c.nH, if_pos (nI_le (Nat.le_refl (gH g)) (show gH g < 2 ^ 31 by omega))]
    rfl)
  exact (congrArg (fun o => Option.bind o _) e).trans rfl
theorem MZu.nextD (m : MZu M g s) {h : Nat} (hh : h < gH g) : F_X9_nextDoor 67 (nI h) M = some (ndS g h (gH g)).1 := by
  have g1 := m.b.gp.1
  have hb : ∀ i, i < gH g → -1000000 ≤ (gStr g i).toInt ∧ (gStr g i).toInt ≤ 1000000 := fun i hi => by have := (m.b.gp.2.2.2.1 i hi).2; unfold bnd at this; omega
  have hk : ∀ n, n ≤ gH g → bsM upN (fun i => !decide (i = h)) (fun i => abI (gStr g i - gStr g h)) n = (ndS g h n).1 := fun n hn => bs_eq (v0 := 31) n (by omega) fun i hi _ => by
    rw [upNt, ti_le, abI_toInt (by have := (m.b.gp.2.2.2.1 i (by omega)).2; have := (m.b.gp.2.2.2.1 h hh).2; unfold bnd at *; rw [ti_sub (by omega) (by omega)]; omega)]
    have a1 := (m.b.gp.2.2.2.1 i (by omega)).2; have a2 := (m.b.gp.2.2.2.1 h hh).2
    unfold bnd at *
    rw [ti_sub (by omega) (by omega), show (31 : Int32).toInt = 31 from rfl]; omega
  rw [← hk _ (Nat.le_refl _)]
  unfold F_X9_nextDoor
  obtain ⟨-, e, -⟩ := loop_bsM (step := fun z : Int32 × Int32 => F_X9_nextDoor_s4 67 (nI h) M z.1 z.2) (fun i b _ => (b, nI i)) (fun b _ => b) upN (fun i => !decide (i = h)) (fun i => abI (gStr g i - gStr g h)) (gH g) (fun _ => True) (M := M) trivial (by omega) (by
    intro i b _ hi _ ho
    refine ⟨M, ?_, trivial⟩
    unfold F_X9_nextDoor_s4
    simp only [ob_t, m.b.nH, if_neg (nI_ge hi (show gH g < 2 ^ 31 by omega)), nI_1, nI_eq (show i < 2 ^ 31 by omega) (show h < 2 ^ 31 by omega)]
    rw [if_pos (by simpa using ho)]) (by
    intro i _ hi _ ho
    refine ⟨M, ?_, trivial⟩
    unfold F_X9_nextDoor_s4
    simp only [ob_t, m.b.nH, if_neg (nI_ge hi (show gH g < 2 ^ 31 by omega)), nI_1, nI_eq (show i < 2 ^ 31 by omega) (show h < 2 ^ 31 by omega)]
    rw [if_neg (by simpa using ho), if_pos trivial]) (by
    intro i k _ hi hk2 _ ho
    refine ⟨M, ?_, trivial⟩
    unfold F_X9_nextDoor_s4
    simp only [ob_t, m.b.nH, if_neg (nI_ge hi (show gH g < 2 ^ 31 by omega)), Lp_67_7 m.lay, m.b.str hi, m.b.str hh, m.b.str (show k < gH g by omega), nI_1, nI_eq (show i < 2 ^ 31 by omega) (show h < 2 ^ 31 by omega), abI_off (hb i hi) (hb h hh), abI_off (hb k (by omega)) (hb h hh)]
    rw [if_neg (by simpa using ho), if_neg (nI_nm1 (by omega))]
    by_cases c2 : abI (gStr g k - gStr g h) ≤ abI (gStr g i - gStr g h)
    · rw [if_pos c2]; simp [upN, c2]
    · rw [if_neg c2]; simp [upN, c2]) (by
    intro b _ _
    unfold F_X9_nextDoor_s4
    simp only [ob_t, m.b.nH, if_pos (nI_le (Nat.le_refl (gH g)) (show gH g < 2 ^ 31 by omega))])
  exact (congrArg (fun o => Option.bind o _) e).trans rfl
def romS (s : Sg) (h : Nat) : Int32 := if sWho s h = -1 then 0 else mxI 0 (sSiz s h - sHee s (sWho s h).toNatClampNeg)
theorem CQ.rom (c : CQ M p g s) {h : Nat} (hh : h < gH g) : F_X8_room 0 (nI h) M = some (romS s h) := by
  have g2 := c.gp.2.1
  unfold F_X8_room romS
  simp only [Lp_0_4 c.1, ob_t, Lp_24_5 c.1, c.who hh, Lp_24_3 c.1, c.siz hh, Lp_24_6 c.1]
  by_cases e : sWho s h = -1
  · rw [if_pos e, if_pos e]
  · obtain ⟨q, hq, e2, -⟩ := c.gd.who hh e
    rw [if_neg e, if_neg e, e2, nI_clamp (by omega), c.hee hq, ob_t]
theorem MZu.rom (m : MZu M g s) {h : Nat} (hh : h < gH g) : F_X9_roomOf 67 (nI h) M = some (romS s h) := by
  have g2 := m.b.gp.2.1
  unfold F_X9_roomOf romS
  simp only [Lp_67_41 m.lay, ob_t, m.who hh, m.siz hh]
  by_cases e : sWho s h = -1
  · rw [if_pos e, if_pos e]
  · obtain ⟨q, hq, e2, -⟩ := m.b.gd.who hh e
    rw [if_neg e, if_neg e, e2, nI_clamp (by omega), m.hee hq, ob_t, F_bounded, ob_t, bounded0 (k := 99) ?_ (by omega)]
    have h1 := (m.b.gd.2.2.2.1 q hq).1
    have h2 := (m.b.gd.2.2.1 h hh).1
    unfold bnd at *
    rw [ti_sub (by omega) (by omega)]; omega
/-- the least of those with most -/
theorem F_lom {a n : Nat} {f : Nat → Int32} (ha : M.1[a]? = some (100, 8)) (hn : n ≤ 8) (hf : ∀ i, i < n → mI M a i = f i) : F_X8_leastOfMost a (nI n) M = some (bsP upX (fun _ => true) f (-1) n).1 := by
  unfold F_X8_leastOfMost
  have e := loop_p (step := fun z : Int32 × Int32 × Int32 => F_X8_leastOfMost_s7 a (nI n) M z.1 z.2.1 z.2.2) (fun i b => (b.1, b.2, nI i)) (fun i b => if true && upX b.2 (f i) then (nI i, f i) else b) ((-1 : Int32), (-1 : Int32)) n (r := (bsP upX (fun _ => true) f (-1) n).1) (by
    intro i hi
    unfold F_X8_leastOfMost_s7
    simp only [if_neg (nI_ge hi (show n < 2 ^ 31 by omega)), alen_t ha, ob_t, if_neg (show ¬ nI 8 ≤ nI i from nI_ge (by omega) (by omega)), aI_t ha (show i < 8 by omega) (by omega), hf i hi, nI_1]
    generalize itN _ _ i = b
    by_cases c2 : f i ≤ b.2
    · rw [if_pos c2]; simp [upX, c2]
    · rw [if_neg c2]; simp [upX, c2]) (by
    unfold F_X8_leastOfMost_s7
    simp only [if_pos (nI_le (Nat.le_refl n) (show n < 2 ^ 31 by omega))]
    rfl)
  exact (congrArg (fun o => Option.bind o _) e).trans rfl
theorem P_house (c : CQ M p g s) (x1 x2 : Int32) : PR 0 M g s (F_X8_house 0 x1 x2 M) (F_X9_house 67 x1 x2) := by
  have g1 := c.gp.1
  have g2 := c.gp.2.1
  rcases hcase g x1 g1 with ⟨a1, ha1, rfl⟩ | hx
  rotate_left 1
  · refine Or.inr (Or.inl ⟨by decide, ?_, fun M1 m => ?_⟩)
    · unfold CT F_X8_house
      have gx := c.needH' hx
      simp only [Lc_0 c.1, bdV_l, bdV_r, gx]
    · obtain ⟨e0, m0, -⟩ := m.zero
      have mx := m0.isH' hx
      refine MT.mk m (v := 0) ?_
      unfold F_X9_house
      simp only [e0, ob_t, Lc_67 m0.lay, bd2_t, ifn1, mx]
      rfl
  rcases ncase x2 0 7 (by omega) (by omega) with ⟨a2, -, ha2, rfl⟩ | hx
  rotate_left 1
  · refine Or.inr (Or.inl ⟨by decide, ?_, fun M1 m => ?_⟩)
    · unfold CT F_X8_house
      have gc1 := c.needH ha1
      have ne : ∀ k, k ≤ 7 → ¬ x2 = nI k := fun k hk e => by
        subst e
        rcases hx with hx | hx
        · rw [nI_ltI (by omega) (by omega)] at hx; omega
        · rw [nI_ltI (by omega) (by omega)] at hx; omega
      have n0 : ¬ x2 = (0 : Int32) := ne 0 (by omega)
      have n1 : ¬ x2 = (1 : Int32) := ne 1 (by omega)
      have n2 : ¬ x2 = (2 : Int32) := ne 2 (by omega)
      have n3 : ¬ x2 = (3 : Int32) := ne 3 (by omega)
      have n4 : ¬ x2 = (4 : Int32) := ne 4 (by omega)
      have n5 : ¬ x2 = (5 : Int32) := ne 5 (by omega)
      have n6 : ¬ x2 = (6 : Int32) := ne 6 (by omega)
      have n7 : ¬ x2 = (7 : Int32) := ne 7 (by omega)
      have gx := c.nx
      simp only [Lc_0 c.1, bdV_l, bdV_r, gx, if_neg n0, if_neg n1, if_neg n2, if_neg n3, if_neg n4, if_neg n5, if_neg n6, if_neg n7, ob_t, gc1]
    · obtain ⟨e0, m0, -⟩ := m.zero
      have gm1 := m0.isH ha1
      have mx : F_X9_isWhat 67 x2 (7 : Int32) _ = _ := m0.isW' (b := 7) hx
      refine MT.mk m (v := 0) ?_
      unfold F_X9_house
      simp only [e0, ob_t, Lc_67 m0.lay, bd2_t, ifn1, mx, gm1]
      rfl
  refine Or.inl ⟨if a2 = 0 then sSiz s a1 else if a2 = 1 then gGiv g a1 else if a2 = 2 then gStr g a1 else if a2 = 3 then sWor s a1 else if a2 = 4 then sWho s a1 else if a2 = 5 then (if bitI (sBur s) a1 then 1 else 0) else if a2 = 6 then romS s a1 else (ndS g a1 (gH g)).1, ?_, fun M1 m => ?_⟩
  · unfold CR F_X8_house
    have gc1 := c.needH ha1
    have gc2 := ha2
    simp only [Lc_0 c.1, bdV_l, ob_t, gc1]
    have h8 : a1 < 31 := by omega
    refine ⟨M, ?_, QC.rfl'⟩
    simp only [Lp_0_4 c.1, ob_t, Lp_24_3 c.1, c.siz ha1, c.pp, c.sG, c.giv ha1, c.sS, c.str ha1, Lp_24_4 c.1, c.wor ha1, Lp_24_5 c.1, c.who ha1, Lc_24 c.1, c.isB h8, c.rom ha1, c.nextD ha1]
    have hq : (if (if bitI (sBur s) a1 = true then (1 : Int32) else 0) = 0 then some (.inl ((0 : Int32), M)) else some (.inl ((1 : Int32), M)) : Option ((Int32 × Mem) ⊕ (Nat × Mem))) = some (.inl (if bitI (sBur s) a1 = true then (1 : Int32) else 0, M)) := by cases bitI (sBur s) a1 <;> rfl
    rw [hq]
    have : a2 = 0 ∨ a2 = 1 ∨ a2 = 2 ∨ a2 = 3 ∨ a2 = 4 ∨ a2 = 5 ∨ a2 = 6 ∨ a2 = 7 := by omega
    rcases this with rfl | rfl | rfl | rfl | rfl | rfl | rfl | rfl <;> rfl
  · obtain ⟨e0, m0, w0⟩ := m.zero
    have gm1 := m0.isH ha1
    have gm2 : F_X9_isWhat 67 (nI a2) (7 : Int32) _ = _ := m0.isW (b := 7) ha2 (by omega)
    unfold MR F_X9_house
    simp only [e0, ob_t, Lc_67 m0.lay, bd2_t, ifn1, gm1, gm2]
    generalize stI M1 67 0 0 = M0 at *
    have h8 : a1 < 31 := by omega
    refine ⟨M0, ?_, w0, m0⟩
    simp only [Lp_67_41 m0.lay, ob_t, m0.siz ha1, Lp_67_6 m0.lay, m0.b.giv ha1, Lp_67_7 m0.lay, m0.b.str ha1, m0.wor ha1, m0.who ha1, m0.bur, bit_shr h8, m0.rom ha1, m0.nextD ha1, Lc_67 m0.lay]
    have : a2 = 0 ∨ a2 = 1 ∨ a2 = 2 ∨ a2 = 3 ∨ a2 = 4 ∨ a2 = 5 ∨ a2 = 6 ∨ a2 = 7 := by omega
    rcases this with rfl | rfl | rfl | rfl | rfl | rfl | rfl | rfl <;> rfl
theorem P_person (c : CQ M p g s) (x1 x2 : Int32) : PR 0 M g s (F_X8_person 0 x1 x2 M) (F_X9_person 67 x1 x2) := by
  have g1 := c.gp.1
  have g2 := c.gp.2.1
  rcases pcase g x1 g2 with ⟨a1, ha1, rfl⟩ | hx
  rotate_left 1
  · refine Or.inr (Or.inl ⟨by decide, ?_, fun M1 m => ?_⟩)
    · unfold CT F_X8_person
      have gx := c.needP' hx
      simp only [Lc_0 c.1, bdV_l, bdV_r, gx]
    · obtain ⟨e0, m0, -⟩ := m.zero
      have mx := m0.isP' hx
      refine MT.mk m (v := 0) ?_
      unfold F_X9_person
      simp only [e0, ob_t, Lc_67 m0.lay, bd2_t, ifn1, mx]
      rfl
  rcases ncase x2 0 4 (by omega) (by omega) with ⟨a2, -, ha2, rfl⟩ | hx
  rotate_left 1
  · refine Or.inr (Or.inl ⟨by decide, ?_, fun M1 m => ?_⟩)
    · unfold CT F_X8_person
      have gc1 := c.needP ha1
      have ne : ∀ k, k ≤ 4 → ¬ x2 = nI k := fun k hk e => by
        subst e
        rcases hx with hx | hx
        · rw [nI_ltI (by omega) (by omega)] at hx; omega
        · rw [nI_ltI (by omega) (by omega)] at hx; omega
      have n0 : ¬ x2 = (0 : Int32) := ne 0 (by omega)
      have n1 : ¬ x2 = (1 : Int32) := ne 1 (by omega)
      have n2 : ¬ x2 = (2 : Int32) := ne 2 (by omega)
      have n3 : ¬ x2 = (3 : Int32) := ne 3 (by omega)
      have n4 : ¬ x2 = (4 : Int32) := ne 4 (by omega)
      have gx := c.nx
      simp only [Lc_0 c.1, bdV_l, bdV_r, gx, if_neg n0, if_neg n1, if_neg n2, if_neg n3, if_neg n4, ob_t, gc1]
    · obtain ⟨e0, m0, -⟩ := m.zero
      have gm1 := m0.isP ha1
      have mx : F_X9_isWhat 67 x2 (4 : Int32) _ = _ := m0.isW' (b := 4) hx
      refine MT.mk m (v := 0) ?_
      unfold F_X9_person
      simp only [e0, ob_t, Lc_67 m0.lay, bd2_t, ifn1, mx, gm1]
      rfl
  refine Or.inl ⟨if a2 = 0 then sHee s a1 else if a2 = 1 then gGro g a1 else if a2 = 2 then wheS g s a1 else if a2 = 3 then sSor s a1 else tnS g s a1, ?_, fun M1 m => ?_⟩
  · unfold CR F_X8_person
    have gc1 := c.needP ha1
    have gc2 := ha2
    simp only [Lc_0 c.1, bdV_l, ob_t, gc1]
    refine ⟨M, ?_, QC.rfl'⟩
    simp only [Lp_0_4 c.1, ob_t, Lp_24_6 c.1, c.hee ha1, c.pp, c.sR, c.gro ha1, Lp_24_7 c.1, c.whe ha1, Lp_24_8 c.1, c.sor ha1, c.tn ha1]
    have : a2 = 0 ∨ a2 = 1 ∨ a2 = 2 ∨ a2 = 3 ∨ a2 = 4 := by omega
    rcases this with rfl | rfl | rfl | rfl | rfl <;> rfl
  · obtain ⟨e0, m0, w0⟩ := m.zero
    have gm1 := m0.isP ha1
    have gm2 : F_X9_isWhat 67 (nI a2) (4 : Int32) _ = _ := m0.isW (b := 4) ha2 (by omega)
    unfold MR F_X9_person
    simp only [e0, ob_t, Lc_67 m0.lay, bd2_t, ifn1, gm1, gm2]
    generalize stI M1 67 0 0 = M0 at *
    refine ⟨M0, ?_, w0, m0⟩
    simp only [Lp_67_41 m0.lay, ob_t, m0.hee ha1, Lp_67_8 m0.lay, m0.b.gro ha1, m0.b.hof (u := a1) rfl, m0.sor ha1, m0.tn ha1 rfl, Lc_67 m0.lay]
    have : a2 = 0 ∨ a2 = 1 ∨ a2 = 2 ∨ a2 = 3 ∨ a2 = 4 := by omega
    rcases this with rfl | rfl | rfl | rfl | rfl <;> rfl
theorem P_wide (c : CQ M p g s) (x1 : Int32) : PR 1 M g s (F_X8_wide 0 x1 M) (F_X9_wide 67 x1) := by
  have g1 := c.gp.1
  have g2 := c.gp.2.1
  rcases ncase x1 1 60 (by omega) (by omega) with ⟨a1, ha1l, ha1, rfl⟩ | hx
  rotate_left 1
  · refine Or.inr (Or.inr ⟨by decide, ?_, fun M1 m => ?_⟩)
    · unfold CT F_X8_wide
      have gx := c.nx
      have rr : x1 < (1 : Int32) ∨ (¬ x1 < (1 : Int32) ∧ ¬ x1 ≤ (60 : Int32)) := by
        by_cases h0 : x1 < (1 : Int32)
        · exact Or.inl h0
        · exact Or.inr ⟨h0, fun z => by have hx := hx.resolve_left h0; rw [ti_lt] at hx; rw [ti_le] at z; exact absurd (Int.lt_of_lt_of_le hx z) (by show ¬ (nI 60).toInt < (nI 60).toInt; omega)⟩
      rcases rr with h0 | ⟨h0, h1⟩
      · simp only [if_pos h0, gx, ob_t]
      · simp only [if_neg h0, if_neg h1, gx, ob_t]
    · obtain ⟨e0, m0, -⟩ := m.zero
      have mx : F_X9_within x1 (1 : Int32) (60 : Int32) _ = _ := F_within' (a := 1) (b := 60) (M := stI M1 67 0 0) hx
      have my : F_X9_right 67 0 1 _ = _ := m0.rgt' (k := 1) (by omega) (by omega)
      refine MT.mk m (v := 0) ?_
      unfold F_X9_wide
      simp only [e0, ob_t, Lc_67 m0.lay, bd2_t, ifn1, mx, my]
      rfl
  refine Or.inl ⟨itN (fun k a => if bitI (sBur s) k then a else if sSiz s k < nI a1 then a else a ||| one k) 0 (gH g), ?_, fun M1 m => ?_⟩
  · unfold CR F_X8_wide
    have gc1 : ¬ nI a1 < (1 : Int32) := nI_nlt (b := 1) ha1l (by omega)
    have gd1 : nI a1 ≤ (60 : Int32) := nI_le (b := 60) ha1 (by omega)
    simp only [Lc_0 c.1, bdV_l, ob_t, if_neg gc1, if_pos gd1]
    have e := loop_p (step := fun z : Int32 × Int32 => F_X8_wide_s26 0 (nI a1) M z.1 z.2) (fun i a => (a, nI i)) (fun k a => if bitI (sBur s) k then a else if sSiz s k < nI a1 then a else a ||| one k) 0 (gH g) (r := itN (fun k a => if bitI (sBur s) k then a else if sSiz s k < nI a1 then a else a ||| one k) 0 (gH g)) (by
      intro i hi
      unfold F_X8_wide_s26
      simp only [c.pp, ob_t, c.nH, if_neg (nI_ge hi (show gH g < 2 ^ 31 by omega)), Lp_0_4 c.1, Lc_24 c.1, c.isB (show i < 31 by omega), Lp_24_3 c.1, c.siz hi, nI_1, nm_t]
      cases bitI (sBur s) i
      · by_cases c3 : sSiz s i < nI a1
        · simp [c3]
        · simp [c3]; rfl
      · simp only [if_true, ifn1]) (by
      unfold F_X8_wide_s26
      simp only [c.pp, ob_t, c.nH, if_pos (nI_le (Nat.le_refl (gH g)) (show gH g < 2 ^ 31 by omega))])
    exact ⟨M, by rw [show ((0 : Int32), (0 : Int32)) = ((0 : Int32), nI 0) from rfl, e]; rfl, QC.rfl'⟩
  · obtain ⟨e0, m0, w0⟩ := m.zero
    have gm1 : F_X9_within (nI a1) (1 : Int32) (60 : Int32) _ = _ := F_within (x := 0) (a := 1) (b := 60) (M := stI M1 67 0 0) (by omega) (by omega) ha1l ha1
    have gn1 := m0.rgt (v := 1)
    unfold MR F_X9_wide
    simp only [e0, ob_t, Lc_67 m0.lay, bd2_t, ifn1, gm1, gn1]
    generalize stI M1 67 0 0 = M0 at *
    have e := loop_p (step := fun z : Int32 × Int32 => F_X9_wide_s26 67 (nI a1) M0 z.1 z.2) (fun i a => (a, nI i)) (fun k a => if bitI (sBur s) k then a else if sSiz s k < nI a1 then a else a ||| one k) 0 (gH g) (r := itN (fun k a => if bitI (sBur s) k then a else if sSiz s k < nI a1 then a else a ||| one k) 0 (gH g)) (by
      intro i hi
      unfold F_X9_wide_s26
      simp only [ob_t, m0.b.nH, if_neg (nI_ge hi (show gH g < 2 ^ 31 by omega)), Lp_67_41 m0.lay, Lc_67 m0.lay, m0.b.isB (show i < 31 by omega), m0.siz hi, nI_1, nm_t, or0]
      cases bitI (sBur s) i
      · by_cases c3 : sSiz s i < nI a1
        · simp [c3]
        · simp [c3]; rfl
      · simp only [if_true, ifn1]) (by
      unfold F_X9_wide_s26
      simp only [ob_t, m0.b.nH, if_pos (nI_le (Nat.le_refl (gH g)) (show gH g < 2 ^ 31 by omega))])
    exact ⟨M0, by rw [show ((0 : Int32), (0 : Int32)) = ((0 : Int32), nI 0) from rfl, e]; rfl, w0, m0⟩
theorem P_wornest (c : CQ M p g s) (x1 : Int32) : PR 1 M g s (F_X8_wornest 0 x1 M) (F_X9_wornest 67 x1) := by
  have g1 := c.gp.1
  have g2 := c.gp.2.1
  rcases ncase x1 0 40 (by omega) (by omega) with ⟨a1, ha1l, ha1, rfl⟩ | hx
  rotate_left 1
  · refine Or.inr (Or.inr ⟨by decide, ?_, fun M1 m => ?_⟩)
    · unfold CT F_X8_wornest
      have gx : F_X8_needDays x1 (0 : Int32) M = _ := c.needD' (a := 0) hx
      simp only [Lc_0 c.1, bdV_l, bdV_r, gx]
    · obtain ⟨e0, m0, -⟩ := m.zero
      have mx : F_X9_isDays 67 x1 (0 : Int32) (1 : Int32) _ = _ := m0.isD' (a := 0) (k := 1) hx (by omega) (by omega)
      refine MT.mk m (v := 0) ?_
      unfold F_X9_wornest
      simp only [e0, ob_t, Lc_67 m0.lay, bd2_t, ifn1, mx]
      rfl
  refine Or.inl ⟨(bsP upX (fun _ => true) (sWor (passN g a1 s)) (-1) (gH g)).1, ?_, fun M1 m => ?_⟩
  · unfold CR F_X8_wornest
    have gc1 : F_X8_needDays (nI a1) (0 : Int32) M = _ := needD (a := 0) ha1l ha1
    simp only [Lc_0 c.1, bdV_l, ob_t, gc1]
    obtain ⟨M', e, c', w⟩ := c.after ha1
    refine ⟨M', ?_, w⟩
    have hl : F_X8_leastOfMost 33 (nI (gH g)) M' = some (bsP upX (fun _ => true) (sWor (passN g a1 s)) (-1) (gH g)).1 := F_lom (c'.1.1.t rfl) (by omega) fun i hi => c'.2.1.2.2.2.2.1 i hi |>.2.1
    simp only [e, bd2_t, Lp_31_4 c'.1.1, ob_t, c'.1.pp, c'.1.nH, hl]
  · obtain ⟨e0, m0, w0⟩ := m.zero
    have gm1 : F_X9_isDays 67 (nI a1) (0 : Int32) (1 : Int32) _ = _ := m0.isD (a := 0) ha1l ha1
    unfold MR F_X9_wornest
    simp only [e0, ob_t, Lc_67 m0.lay, bd2_t, ifn1, gm1]
    generalize stI M1 67 0 0 = M0 at *
    obtain ⟨M', e, m', w⟩ := m0.goesTo ha1
    refine ⟨M', ?_, w0.trans w, m'.1⟩
    have hk : ∀ n, n ≤ gH g → bsM upX (fun _ => true) (sWor (passN g a1 s)) n = (bsP upX (fun _ => true) (sWor (passN g a1 s)) (-1) n).1 := fun n hn => bs_eq (v0 := -1) n (by omega) fun i hi _ => by
      rw [upXt, ti_le, tnm1]
      have := m'.2.gd.2.2.1 i (by omega) |>.2.1.1
      omega
    rw [← hk _ (Nat.le_refl _)]
    obtain ⟨-, e2, -⟩ := loop_bsM (step := fun z : Int32 × Int32 => F_X9_wornest_s26 67 M' z.1 z.2) (fun i b _ => (b, nI i)) (fun b _ => b) upX (fun _ => true) (sWor (passN g a1 s)) (gH g) (fun _ => True) (M := M') trivial (by omega) (by
      intro i b _ hi _ ho; cases ho) (by
      intro i _ hi _ ho
      refine ⟨M', ?_, trivial⟩
      unfold F_X9_wornest_s26
      simp only [ob_t, m'.1.b.nH, if_neg (nI_ge hi (show gH g < 2 ^ 31 by omega)), nI_1, if_true]) (by
      intro i k _ hi hk2 _ ho
      refine ⟨M', ?_, trivial⟩
      unfold F_X9_wornest_s26
      simp only [ob_t, m'.1.b.nH, if_neg (nI_ge hi (show gH g < 2 ^ 31 by omega)), Lp_67_41 m'.1.lay, m'.wor hi, m'.wor (show k < gH g by omega), nI_1]
      rw [if_neg (nI_nm1 (by omega))]
      by_cases c2 : sWor (passN g a1 s) i ≤ sWor (passN g a1 s) k
      · rw [if_pos c2]; simp [upX, c2]
      · rw [if_neg c2]; simp [upX, c2]) (by
      intro b _ _
      unfold F_X9_wornest_s26
      simp only [ob_t, m'.1.b.nH, if_pos (nI_le (Nat.le_refl (gH g)) (show gH g < 2 ^ 31 by omega))])
    simp only [e, ob_t]
    exact (congrArg (fun o => Option.bind o _) e2).trans rfl
theorem P_sorest (c : CQ M p g s) (x1 : Int32) : PR 1 M g s (F_X8_sorest 0 x1 M) (F_X9_sorest 67 x1) := by
  have g1 := c.gp.1
  have g2 := c.gp.2.1
  rcases ncase x1 0 40 (by omega) (by omega) with ⟨a1, ha1l, ha1, rfl⟩ | hx
  rotate_left 1
  · refine Or.inr (Or.inr ⟨by decide, ?_, fun M1 m => ?_⟩)
    · unfold CT F_X8_sorest
      have gx : F_X8_needDays x1 (0 : Int32) M = _ := c.needD' (a := 0) hx
      simp only [Lc_0 c.1, bdV_l, bdV_r, gx]
    · obtain ⟨e0, m0, -⟩ := m.zero
      have mx : F_X9_isDays 67 x1 (0 : Int32) (1 : Int32) _ = _ := m0.isD' (a := 0) (k := 1) hx (by omega) (by omega)
      refine MT.mk m (v := 0) ?_
      unfold F_X9_sorest
      simp only [e0, ob_t, Lc_67 m0.lay, bd2_t, ifn1, mx]
      rfl
  refine Or.inl ⟨(bsP upX (fun _ => true) (sSor (passN g a1 s)) (-1) (gN g)).1, ?_, fun M1 m => ?_⟩
  · unfold CR F_X8_sorest
    have gc1 : F_X8_needDays (nI a1) (0 : Int32) M = _ := needD (a := 0) ha1l ha1
    simp only [Lc_0 c.1, bdV_l, ob_t, gc1]
    obtain ⟨M', e, c', w⟩ := c.after ha1
    refine ⟨M', ?_, w⟩
    have hl : F_X8_leastOfMost 37 (nI (gN g)) M' = some (bsP upX (fun _ => true) (sSor (passN g a1 s)) (-1) (gN g)).1 := F_lom (c'.1.1.t rfl) (by omega) fun i hi => c'.2.1.2.2.2.2.2 i hi |>.2.2
    simp only [e, bd2_t, Lp_31_8 c'.1.1, ob_t, c'.1.pp, c'.1.nN, hl]
  · obtain ⟨e0, m0, w0⟩ := m.zero
    have gm1 : F_X9_isDays 67 (nI a1) (0 : Int32) (1 : Int32) _ = _ := m0.isD (a := 0) ha1l ha1
    unfold MR F_X9_sorest
    simp only [e0, ob_t, Lc_67 m0.lay, bd2_t, ifn1, gm1]
    generalize stI M1 67 0 0 = M0 at *
    obtain ⟨M', e, m', w⟩ := m0.goesTo ha1
    refine ⟨M', ?_, w0.trans w, m'.1⟩
    have hk : ∀ n, n ≤ gN g → bsM upX (fun _ => true) (sSor (passN g a1 s)) n = (bsP upX (fun _ => true) (sSor (passN g a1 s)) (-1) n).1 := fun n hn => bs_eq (v0 := -1) n (by omega) fun i hi _ => by
      rw [upXt, ti_le, tnm1]
      have := m'.2.gd.2.2.2.1 i (by omega) |>.2.1
      omega
    rw [← hk _ (Nat.le_refl _)]
    obtain ⟨-, e2, -⟩ := loop_bsM (step := fun z : Int32 × Int32 => F_X9_sorest_s26 67 M' z.1 z.2) (fun i b _ => (b, nI i)) (fun b _ => b) upX (fun _ => true) (sSor (passN g a1 s)) (gN g) (fun _ => True) (M := M') trivial (by omega) (by
      intro i b _ hi _ ho; cases ho) (by
      intro i _ hi _ ho
      refine ⟨M', ?_, trivial⟩
      unfold F_X9_sorest_s26
      simp only [ob_t, m'.1.b.nN, if_neg (nI_ge hi (show gN g < 2 ^ 31 by omega)), nI_1, if_true]) (by
      intro i k _ hi hk2 _ ho
      refine ⟨M', ?_, trivial⟩
      unfold F_X9_sorest_s26
      simp only [ob_t, m'.1.b.nN, if_neg (nI_ge hi (show gN g < 2 ^ 31 by omega)), Lp_67_41 m'.1.lay, m'.sor hi, m'.sor (show k < gN g by omega), nI_1]
      rw [if_neg (nI_nm1 (by omega))]
      by_cases c2 : sSor (passN g a1 s) i ≤ sSor (passN g a1 s) k
      · rw [if_pos c2]; simp [upX, c2]
      · rw [if_neg c2]; simp [upX, c2]) (by
      intro b _ _
      unfold F_X9_sorest_s26
      simp only [ob_t, m'.1.b.nN, if_pos (nI_le (Nat.le_refl (gN g)) (show gN g < 2 ^ 31 by omega))])
    simp only [e, ob_t]
    exact (congrArg (fun o => Option.bind o _) e2).trans rfl
theorem P_dampest (c : CQ M p g s) (x1 : Int32) : PR 1 M g s (F_X8_dampest 0 x1 M) (F_X9_dampest 67 x1) := by
  have g1 := c.gp.1
  have g2 := c.gp.2.1
  rcases ncase x1 1 40 (by omega) (by omega) with ⟨a1, ha1l, ha1, rfl⟩ | hx
  rotate_left 1
  · refine Or.inr (Or.inr ⟨by decide, ?_, fun M1 m => ?_⟩)
    · unfold CT F_X8_dampest
      have gx : F_X8_needDays x1 (1 : Int32) M = _ := c.needD' (a := 1) hx
      simp only [Lc_0 c.1, bdV_l, bdV_r, gx]
    · obtain ⟨e0, m0, -⟩ := m.zero
      have mx : F_X9_isDays 67 x1 (1 : Int32) (1 : Int32) _ = _ := m0.isD' (a := 1) (k := 1) hx (by omega) (by omega)
      refine MT.mk m (v := 0) ?_
      unfold F_X9_dampest
      simp only [e0, ob_t, Lc_67 m0.lay, bd2_t, ifn1, mx]
      rfl
  refine Or.inl ⟨(itN (fun k a => if toldD g (sDay s + nI (k + 1)) ≤ a.2 then a else (nI (k + 1), toldD g (sDay s + nI (k + 1)))) ((0 : Int32), dampS g s) (a1 - 1)).1, ?_, fun M1 m => ?_⟩
  · unfold CR F_X8_dampest
    have gc1 : F_X8_needDays (nI a1) (1 : Int32) M = _ := needD (a := 1) ha1l ha1
    simp only [Lc_0 c.1, bdV_l, ob_t, gc1]
    obtain ⟨n, rfl⟩ : ∃ n, a1 = n + 1 := ⟨a1 - 1, by omega⟩
    rw [Nat.add_sub_cancel]
    have e := loop_p (step := fun z : Int32 × Int32 × Int32 => F_X8_dampest_s22 0 (nI (n + 1)) M z.1 z.2.1 z.2.2) (fun i a => (a.1, a.2, nI (i + 1))) (fun k a => if toldD g (sDay s + nI (k + 1)) ≤ a.2 then a else (nI (k + 1), toldD g (sDay s + nI (k + 1)))) ((0 : Int32), dampS g s) n (r := (itN (fun k a => if toldD g (sDay s + nI (k + 1)) ≤ a.2 then a else (nI (k + 1), toldD g (sDay s + nI (k + 1)))) ((0 : Int32), dampS g s) n).1) (by
      intro i hi
      have hday : 0 ≤ (sDay s + nI (i + 1)).toInt := by
        have := c.gd.1
        unfold bnd at this
        rw [ti_add (by rw [nI_toInt (by omega)]; omega) (by rw [nI_toInt (by omega)]; omega), nI_toInt (by omega)]; omega
      unfold F_X8_dampest_s22
      simp only [if_neg (nI_ge (show i + 1 < n + 1 by omega) (show n + 1 < 2 ^ 31 by omega)), c.pp, ob_t, Lp_0_4 c.1, c.day, c.ck, F_dampOn c.pl hday, nI_1]
      split <;> rfl) (by
      unfold F_X8_dampest_s22
      simp only [if_pos (nI_le (Nat.le_refl (n + 1)) (show n + 1 < 2 ^ 31 by omega))])
    refine ⟨M, ?_, QC.rfl'⟩
    simp only [c.pp, ob_t, Lp_0_4 c.1, c.ck, c.damp]
    exact (congrArg (fun o => Option.bind o _) e).trans rfl
  · obtain ⟨e0, m0, w0⟩ := m.zero
    have gm1 : F_X9_isDays 67 (nI a1) (1 : Int32) (1 : Int32) _ = _ := m0.isD (a := 1) ha1l ha1
    unfold MR F_X9_dampest
    simp only [e0, ob_t, Lc_67 m0.lay, bd2_t, ifn1, gm1]
    generalize stI M1 67 0 0 = M0 at *
    obtain ⟨n, rfl⟩ : ∃ n, a1 = n + 1 := ⟨a1 - 1, by omega⟩
    rw [Nat.add_sub_cancel]
    have e := loop_p (step := fun z : Int32 × Int32 × Int32 => F_X9_dampest_s28 67 (nI (n + 1)) M0 z.1 z.2.1 z.2.2) (fun i a => (a.1, a.2, nI (i + 1))) (fun k a => if toldD g (sDay s + nI (k + 1)) ≤ a.2 then a else (nI (k + 1), toldD g (sDay s + nI (k + 1)))) ((0 : Int32), dampS g s) n (r := (itN (fun k a => if toldD g (sDay s + nI (k + 1)) ≤ a.2 then a else (nI (k + 1), toldD g (sDay s + nI (k + 1)))) ((0 : Int32), dampS g s) n).1) (by
      intro i hi
      have hday : 0 ≤ (sDay s + nI (i + 1)).toInt := by
        have := m0.b.gd.1
        unfold bnd at this
        rw [ti_add (by rw [nI_toInt (by omega)]; omega) (by rw [nI_toInt (by omega)]; omega), nI_toInt (by omega)]; omega
      unfold F_X9_dampest_s28
      simp only [if_neg (nI_ge (show i + 1 < n + 1 by omega) (show n + 1 < 2 ^ 31 by omega)), ob_t, Lp_67_41 m0.lay, m0.day, Lc_67 m0.lay, m0.b.told hday, nI_1]
      generalize itN _ _ i = a
      by_cases c2 : toldD g (sDay s + nI (i + 1)) ≤ a.2
      · rw [if_pos c2, if_neg (fun z => le_nlt.mpr z c2)]
      · rw [if_neg c2, if_pos (le_nlt.mp c2)]) (by
      unfold F_X9_dampest_s28
      simp only [if_pos (nI_le (Nat.le_refl (n + 1)) (show n + 1 < 2 ^ 31 by omega))])
    refine ⟨M0, ?_, w0, m0⟩
    have hd : F_X9_dampIn 67 0 M0 = some (dampS g s) := by rw [m0.b.damp]; unfold dmp; rw [if_pos m0.1.2]
    simp only [hd, ob_t]
    exact (congrArg (fun o => Option.bind o _) e).trans rfl
end
