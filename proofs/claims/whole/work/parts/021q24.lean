section
variable {M : Mem} {p : Nat} {g : Pg} {s : Sg}

/-! ===== who is matched ===== -/
theorem CQ.allX (c : CQ M p g s) (x : CXm g s (gN g) M) : F_X1_all 58 M = some (nI (2 ^ gH g - 1)) := by
  unfold F_X1_all
  rw [Lf_58 c.1, ob_t, x.1, (ms_7 (gH g) c.gp.1).2.2]
theorem ar1 {A B P : Nat} (h : P ≤ B) (h2 : B ≤ A) : A - B + P = A - (B - P) := by omega
theorem p2_lt (hg : GdP g) : 2 ^ gH g - 1 < 2 ^ gH g ∧ 2 ^ gH g ≤ 256 := by
  have := (ms_7 (gH g) hg.1).2.1
  have : 0 < 2 ^ gH g := Nat.pow_pos (by omega)
  omega
-- who is left, before one
noncomputable def sqN (g : Pg) (s : Sg) : Nat → Nat := itN (fun q n => if pkN g s (gN g - 1 - q) n = 15 then n else mns n (pkN g s (gN g - 1 - q) n)) (2 ^ gH g - 1)
theorem sq_lt (hg : GdP g) : ∀ q, sqN g s q < 2 ^ gH g := by
  intro q
  induction q with
  | zero => exact (p2_lt hg).1
  | succ q ih =>
    show (if pkN g s (gN g - 1 - q) (sqN g s q) = 15 then sqN g s q else mns (sqN g s q) (pkN g s (gN g - 1 - q) (sqN g s q))) < _
    split
    · exact ih
    · exact Nat.lt_of_le_of_lt (mns_le _ _) ih
noncomputable def maS (g : Pg) (s : Sg) (q : Nat) : Int32 := if pkN g s (gN g - 1 - q) (sqN g s q) = 15 then -1 else nI (pkN g s (gN g - 1 - q) (sqN g s q))
theorem CQ.nib {q n : Nat} (c : CQ M p g s) (x : CXm g s (gN g) M) (hq : q < gN g) (hn : n < 2 ^ gH g) : (((mI M 60 n).toUInt32 >>> ((((4 : Int32) * nI q)).toUInt32 &&& Int32.toUInt32 31)).toInt32 &&& (15 : Int32)) = nI (pkN g s (gN g - 1 - q) n) := by
  have g2 := c.gp.2.1
  refine nb_r (by omega) (pkN_lt c.gp) fun i hi => ?_
  have := x.2.2 n hn (4 * q + i) (by omega)
  rw [show (4 * q + i) / 4 = q by omega, show (4 * q + i) % 4 = i by omega, decide_eq_true (show gN g - gN g ≤ q ∧ q < gN g by omega)] at this
  simpa using this
theorem pk_h (hg : GdP g) {k n : Nat} : pkN g s k n = 15 ∨ pkN g s k n < gH g := by
  obtain ⟨-, -, h3⟩ := cp_all (g := g) (s := s) (f := csN g s k) (q := gN g - (k + 1)) (n := n)
  rcases h3 with ⟨z, -⟩ | ⟨-, z, -⟩
  · exact Or.inl z
  · exact Or.inr z
theorem CQ.houseOf {u : Nat} (c : CQ M p g s) (x : CXm g s (gN g) M) (hu : u < gN g) : F_X1_houseOf 58 (nI u) M = some (maS g s u) := by
  have g1 := c.gp.1
  have g2 := c.gp.2.1
  have p2 := p2_lt c.gp
  have e := loop_run (step := fun z : Int32 × Int32 => F_X1_houseOf_s7 58 (nI u) M z.1 z.2) (fun i => (nI (sqN g s i), nI i)) u (r := .inr (maS g s u)) (fun i hi => by
    have sl := sq_lt (s := s) c.gp i
    have pl := pkN_lt (s := s) (k := gN g - 1 - i) (n := sqN g s i) c.gp
    have es : sqN g s (i + 1) = if pkN g s (gN g - 1 - i) (sqN g s i) = 15 then sqN g s i else mns (sqN g s i) (pkN g s (gN g - 1 - i) (sqN g s i)) := rfl
    unfold F_X1_houseOf_s7
    dsimp only
    rw [if_neg (nI_nlt (by omega) (by omega)), Lp_58_1 c.1, ob_t, La_60 c.1 (by omega), ob_t, c.nib x (by omega) sl, nm_t, if_neg (show ¬ nI i = nI u from fun z => by have := (nI_eq (by omega) (by omega)).mp z; omega), nm_t, nI_1, es]
    rcases pk_h (s := s) (k := gN g - 1 - i) (n := sqN g s i) c.gp with z | z
    · rw [z, if_pos (show nI 15 = 15 from rfl), if_pos rfl]
    · have e1 : nI (sqN g s i) &&& (((1 : Int32) <<< (nI (pkN g s (gN g - 1 - i) (sqN g s i)) &&& 31)) ^^^ -1) = _ := ms_1 (sqN g s i) (by omega) _ (show pkN g s (gN g - 1 - i) (sqN g s i) < 8 by omega)
      rw [if_neg (show ¬ pkN g s (gN g - 1 - i) (sqN g s i) = 15 by omega), if_neg (show ¬ nI (pkN g s (gN g - 1 - i) (sqN g s i)) = 15 from fun y => by have := (nI_eq (b := 15) (by omega) (by omega)).mp y; omega), e1]) (by
    have sl := sq_lt (s := s) c.gp u
    have pl := pkN_lt (s := s) (k := gN g - 1 - u) (n := sqN g s u) c.gp
    unfold F_X1_houseOf_s7 maS
    dsimp only
    rw [if_neg (nI_nlt (by omega) (by omega)), Lp_58_1 c.1, ob_t, La_60 c.1 (by omega), ob_t, c.nib x hu sl, nm_t, if_pos rfl]
    rcases pk_h (s := s) (k := gN g - 1 - u) (n := sqN g s u) c.gp with z | z
    · rw [z, if_pos (show nI 15 = 15 from rfl), if_pos rfl]
    · rw [if_neg (show ¬ pkN g s (gN g - 1 - u) (sqN g s u) = 15 by omega), if_neg (show ¬ nI (pkN g s (gN g - 1 - u) (sqN g s u)) = 15 from fun y => by have := (nI_eq (b := 15) (by omega) (by omega)).mp y; omega)])
  unfold F_X1_houseOf
  have e' : loop (fun z : Int32 × Int32 => F_X1_houseOf_s7 58 (nI u) M z.1 z.2) (nI (2 ^ gH g - 1), (0 : Int32)) = _ := e
  rw [Lc_58 c.1, c.allX x, ob_t, e', ob_t]; rfl
-- the reference's choice again
theorem MZu.chose {q n : Nat} (m : MZu M g s) (x : MX g s (gN g) M) (hq : q < gN g) (hn : n < 2 ^ gH g) : ∃ r, loop (fun z : Int32 × Int32 × Mem => F_X9_matched_s42 67 (nI n) (nI q) z.1 z.2.1 z.2.2) ((-1 : Int32), nI (gH g) - 1, M) = some r ∧ r.1 = (if pkN g s (gN g - 1 - q) (2 ^ gH g - 1 - n) = 15 then -1 else nI (pkN g s (gN g - 1 - q) (2 ^ gH g - 1 - n))) ∧ Wr [85, 86] M r.2 := by
  have g1 := m.b.gp.1
  have g2 := m.b.gp.2.1
  have p2 := p2_lt m.b.gp
  obtain ⟨k, ek⟩ : ∃ k, k = gN g - 1 - q := ⟨_, rfl⟩
  have eq : q = gN g - (k + 1) := by omega
  have hk : k < gN g := by omega
  rw [← ek, dwn_0]
  have xk : MX g s k M := fun q' a b => x q' (by omega) b
  let cd := fun h => csN g s k (mns (2 ^ gH g - 1 - n) h) + tgN s q h
  refine loop_ex (step := fun z : Int32 × Int32 × Mem => F_X9_matched_s42 67 (nI n) (nI q) z.1 z.2.1 z.2.2) (fun j z => z.2.1 = dwn (gH g) j ∧ ((z.1 = -1 ∧ ∀ h, gH g - j ≤ h → h < gH g → okM g s q (2 ^ gH g - 1 - n) h → csN g s k (mns (2 ^ gH g - 1 - n) h) + tgN s q h ≠ csN g s (k + 1) (2 ^ gH g - 1 - n)) ∨ ∃ a, z.1 = nI a ∧ gH g - j ≤ a ∧ a < gH g ∧ okM g s q (2 ^ gH g - 1 - n) a ∧ csN g s k (mns (2 ^ gH g - 1 - n) a) + tgN s q a = csN g s (k + 1) (2 ^ gH g - 1 - n) ∧ ∀ h, gH g - j ≤ h → h < a → okM g s q (2 ^ gH g - 1 - n) h → csN g s k (mns (2 ^ gH g - 1 - n) h) + tgN s q h ≠ csN g s (k + 1) (2 ^ gH g - 1 - n)) ∧ Wr [85, 86] M z.2.2) _ (gH g) ?_ ⟨rfl, Or.inl ⟨rfl, fun h a b => by omega⟩, Wr.rfl'⟩
  rintro j ⟨v, i, M1⟩ hj ⟨h1, h2, w1⟩
  dsimp only at h1 h2 w1
  subst h1
  have m1 := m.w3 w1.to3
  unfold F_X9_matched_s42
  dsimp only
  by_cases e : j = gH g
  · subst e
    rw [if_pos dwn_n]
    refine Or.inl ⟨_, rfl, ?_, w1⟩
    dsimp only
    obtain ⟨-, -, c3⟩ := cp_all (g := g) (s := s) (f := csN g s k) (q := gN g - (k + 1)) (n := 2 ^ gH g - 1 - n)
    rw [← eq] at c3
    have e1 : (cpN g s (csN g s k) q (2 ^ gH g - 1 - n)).1 = csN g s (k + 1) (2 ^ gH g - 1 - n) := by rw [eq]; rfl
    have e2 : (cpN g s (csN g s k) q (2 ^ gH g - 1 - n)).2 = pkN g s k (2 ^ gH g - 1 - n) := by rw [eq]; rfl
    rw [e1, e2] at c3
    rcases c3 with ⟨z1, -, z3⟩ | ⟨-, z2, z3, z4, z5⟩
    · rw [if_pos z1]
      rcases h2 with ⟨y, -⟩ | ⟨a, -, -, y2, y3, y4, -⟩
      · exact y
      · have := z3 a (by omega) y2 y3; omega
    · rw [if_neg (by omega)]
      rcases h2 with ⟨-, y⟩ | ⟨a, y0, -, y2, y3, y4, y5⟩
      · exact absurd z4.symm (y _ (by omega) z2 z3)
      · rw [y0]
        by_cases l1 : a < pkN g s k (2 ^ gH g - 1 - n)
        · have := z5 a (by omega) l1 y3; omega
        · by_cases l2 : pkN g s k (2 ^ gH g - 1 - n) < a
          · exact absurd z4.symm (y5 _ (by omega) l2 z3)
          · rw [show a = pkN g s k (2 ^ gH g - 1 - n) by omega]
  · have hj' : j < gH g := by omega
    refine Or.inr ⟨hj', ?_⟩
    rw [dwn_s hj', dwn_e hj']
    have hh : gH g - 1 - j < gH g := by omega
    have eh : gH g - (j + 1) = gH g - 1 - j := by omega
    have eh2 : ∀ h, gH g - 1 - j ≤ h → h ≠ gH g - 1 - j → gH g - j ≤ h := fun h a b => by omega
    have eh3 : ∀ h, gH g - j ≤ h → gH g - 1 - j ≤ h ∧ gH g - 1 - j < h := fun h a => by omega
    rw [eh]
    generalize gH g - 1 - j = h at *
    have b2 := ms_2 n (by omega) h (by omega)
    have b4 := ms_4 (gH g) g1 n hn h hh
    have skip : (okM g s q (2 ^ gH g - 1 - n) h → csN g s k (mns (2 ^ gH g - 1 - n) h) + tgN s q h ≠ csN g s (k + 1) (2 ^ gH g - 1 - n)) → ((v = -1 ∧ ∀ h', h ≤ h' → h' < gH g → okM g s q (2 ^ gH g - 1 - n) h' → csN g s k (mns (2 ^ gH g - 1 - n) h') + tgN s q h' ≠ csN g s (k + 1) (2 ^ gH g - 1 - n)) ∨ ∃ a, v = nI a ∧ h ≤ a ∧ a < gH g ∧ okM g s q (2 ^ gH g - 1 - n) a ∧ csN g s k (mns (2 ^ gH g - 1 - n) a) + tgN s q a = csN g s (k + 1) (2 ^ gH g - 1 - n) ∧ ∀ h', h ≤ h' → h' < a → okM g s q (2 ^ gH g - 1 - n) h' → csN g s k (mns (2 ^ gH g - 1 - n) h') + tgN s q h' ≠ csN g s (k + 1) (2 ^ gH g - 1 - n)) := fun no => by
      rcases h2 with ⟨y, y'⟩ | ⟨a, y0, y1, y2, y3, y4, y5⟩
      · refine Or.inl ⟨y, fun h' x1 x2 x3 => ?_⟩
        by_cases e : h' = h
        · rw [e] at x3 ⊢; exact no x3
        · exact y' h' (eh2 h' x1 e) x2 x3
      · refine Or.inr ⟨a, y0, (eh3 a y1).1, y2, y3, y4, fun h' x1 x2 x3 => ?_⟩
        by_cases e : h' = h
        · rw [e] at x3 ⊢; exact no x3
        · exact y5 h' (eh2 h' x1 e) x2 x3
    rw [if_neg (nI_pos (by omega))]
    by_cases b : n.testBit h = true
    · rw [shr1 (by omega) (by rw [b2]; exact b), if_neg (by decide)]
      exact ⟨_, rfl, rfl, skip (fun z => by have := z.1; rw [b4, b] at this; cases this), w1⟩
    · obtain ⟨M2, e2, w2⟩ := m1.go' (u := q) hq hh
      have m2 := m1.w3 w2.to3
      have x2 := (x.wr w1).wr w2
      have xk2 := (xk.wr w1).wr w2
      have b' : n.testBit h = false := by simpa using b
      rw [if_pos (shB0 (by omega) (by rw [b2]; exact b)), Lc_67 m1.lay, e2, bd2_t]
      by_cases z : goI g s q h (dampS g s) = 0
      · rw [if_pos z]
        exact ⟨_, rfl, rfl, skip (fun y => absurd z y.2), w1.trans w2⟩
      · have ok : okM g s q (2 ^ gH g - 1 - n) h := ⟨by rw [b4, b']; rfl, z⟩
        have eb := m2.byHouse xk2 hk hh hn b'
        have el := m2.leastOf x2 (q := q) (n := n) (by omega) (by omega) hn
        rw [← eq] at eb
        rw [show gN g - q = k + 1 by omega] at el
        have te := (tg_e m.b.gd hq hh).2
        have c1 := (cs_ub (n := mns (2 ^ gH g - 1 - n) h) m.b.gp m.b.gd (Nat.le_of_lt hk)).1
        have c2 := (cs_ub (k := k + 1) (n := 2 ^ gH g - 1 - n) m.b.gp m.b.gd (by omega)).1
        have f1 := (f10_b (v := csN g s k (mns (2 ^ gH g - 1 - n) h) + tgN s q h) (by omega)).1
        have f2 := (f10_b (v := csN g s (k + 1) (2 ^ gH g - 1 - n)) (by omega)).1
        rw [if_neg z, Lc_67 m2.lay, eb, ob_t, Lc_67 m2.lay, el, ob_t]
        by_cases y : csN g s k (mns (2 ^ gH g - 1 - n) h) + tgN s q h = csN g s (k + 1) (2 ^ gH g - 1 - n)
        · rw [if_pos (by rw [y])]
          exact ⟨_, rfl, rfl, Or.inr ⟨h, rfl, Nat.le_refl _, hh, ok, y, fun h' x1 x2 => by omega⟩, w1.trans w2⟩
        · rw [if_neg (fun c => y (f10_eq.mp ((nI_eq (by omega) (by omega)).mp c)))]
          exact ⟨_, rfl, rfl, skip (fun _ => y), w1.trans w2⟩
theorem MZu.matchedL {u : Nat} (m : MZu M g s) (x : MX g s (gN g) M) (hu : u < gN g) : ∃ r, loop (fun z : Int32 × Int32 × Int32 × Mem => F_X9_matched_s26 67 (nI u) z.1 z.2.1 z.2.2.1 z.2.2.2) ((0 : Int32), (-1 : Int32), (0 : Int32), M) = some r ∧ r.1 = maS g s u ∧ Wr [85, 86] M r.2 := by
  have g1 := m.b.gp.1
  have g2 := m.b.gp.2.1
  have p2 := p2_lt m.b.gp
  refine loop_ex (step := fun z : Int32 × Int32 × Int32 × Mem => F_X9_matched_s26 67 (nI u) z.1 z.2.1 z.2.2.1 z.2.2.2) (fun q z => z.2.2.1 = nI q ∧ z.1 = nI (2 ^ gH g - 1 - sqN g s q) ∧ (q = 0 ∨ z.2.1 = maS g s (q - 1)) ∧ Wr [85, 86] M z.2.2.2) _ (u + 1) ?_ ⟨rfl, by show (0 : Int32) = nI (2 ^ gH g - 1 - (2 ^ gH g - 1)); rw [Nat.sub_self]; rfl, Or.inl rfl, Wr.rfl'⟩
  rintro q ⟨v, t, i, M1⟩ hq ⟨h1, h2, h3, w1⟩
  dsimp only at h1 h2 h3 w1
  subst h1 h2
  have m1 := m.w3 w1.to3
  have x1 := x.wr w1
  unfold F_X9_matched_s26
  dsimp only
  by_cases e : q = u + 1
  · subst e
    rw [if_pos (nI_lt (by omega) (by omega))]
    exact Or.inl ⟨_, rfl, h3.resolve_left (by omega), w1⟩
  · refine Or.inr ⟨by omega, ?_⟩
    have sl := sq_lt (s := s) m.b.gp q
    obtain ⟨⟨r, M2⟩, e2, r2, w2⟩ := m1.chose x1 (q := q) (n := 2 ^ gH g - 1 - sqN g s q) (by omega) (by omega)
    rw [show 2 ^ gH g - 1 - (2 ^ gH g - 1 - sqN g s q) = sqN g s q by omega] at r2
    dsimp only at r2 w2
    have rm : r = maS g s q := r2
    rw [if_neg (nI_nlt (by omega) (by omega)), m1.b.nH, ob_t, e2, ob_t, u2_t, nI_1]
    have es : sqN g s (q + 1) = if pkN g s (gN g - 1 - q) (sqN g s q) = 15 then sqN g s q else mns (sqN g s q) (pkN g s (gN g - 1 - q) (sqN g s q)) := rfl
    obtain ⟨-, -, c3⟩ := cp_all (g := g) (s := s) (f := csN g s (gN g - 1 - q)) (q := gN g - (gN g - 1 - q + 1)) (n := sqN g s q)
    have ep : (cpN g s (csN g s (gN g - 1 - q)) (gN g - (gN g - 1 - q + 1)) (sqN g s q)).2 = pkN g s (gN g - 1 - q) (sqN g s q) := rfl
    rw [ep] at c3
    rcases c3 with ⟨z1, -⟩ | ⟨-, z2, z3, -⟩
    · have er : r = -1 := by rw [r2, if_pos z1]
      rw [if_pos er]
      exact ⟨_, rfl, rfl, by dsimp only; rw [es, if_pos z1], Or.inr (by simpa using rm), w1.trans w2⟩
    · have er : r = nI (pkN g s (gN g - 1 - q) (sqN g s q)) := by rw [r2, if_neg (by omega)]
      rw [if_neg (by rw [er]; exact nI_nm1 (by omega)), nm_t]
      refine ⟨_, rfl, rfl, ?_, Or.inr (by simpa using rm), w1.trans w2⟩
      dsimp only
      rw [er, es, if_neg (by omega)]
      have b := z3.1
      generalize pkN g s (gN g - 1 - q) (sqN g s q) = h at *
      have b4 := ms_4 (gH g) g1 (2 ^ gH g - 1 - sqN g s q) (by omega) h z2
      rw [show 2 ^ gH g - 1 - (2 ^ gH g - 1 - sqN g s q) = sqN g s q by omega, b] at b4
      have bf : (2 ^ gH g - 1 - sqN g s q).testBit h = false := by
        cases c : (2 ^ gH g - 1 - sqN g s q).testBit h
        · rfl
        · rw [c] at b4; cases b4
      have p5 := ms_5 (gH g) g1 (2 ^ gH g - 1 - sqN g s q) (by omega) h z2 bf
      have p3 := ms_3 (sqN g s q) (by omega) h (by omega) b
      have p5' : nI (2 ^ gH g - 1 - sqN g s q) ||| ((1 : Int32) <<< (nI h &&& 31)) = _ := p5.1
      rw [p5']
      congr 1
      unfold mns
      rw [if_pos b]
      exact ar1 p3 (by omega)
-- whose want costs a bed
noncomputable def neS (g : Pg) (s : Sg) : Int32 := itN (fun h a => if csN g s (gN g) (mns (2 ^ gH g - 1) h) / 1000 ≤ csN g s (gN g) (2 ^ gH g - 1) / 1000 then a else a ||| one h) 0 (gH g)
theorem CQ.lodgeX (c : CQ M p g s) (x : CXm g s (gN g) M) : F_X1_lodge 58 M = some (nI (csN g s (gN g) (2 ^ gH g - 1) / 1000)) := by
  have p2 := p2_lt c.gp
  have cu := (cs_ub (n := 2 ^ gH g - 1) c.gp c.gd (Nat.le_refl (gN g))).1
  unfold F_X1_lodge
  rw [Lp_58_0 c.1, ob_t, Lc_58 c.1, c.allX x, ob_t, La_59 c.1 (by omega), ob_t, x.2.1 _ p2.1, show nI (csN g s (gN g) (2 ^ gH g - 1)) / (1000 : Int32) = _ from nI_div (b := 1000) (by omega) (by omega) (by omega)]
theorem CQ.tightX (c : CQ M p g s) (x : CXm g s (gN g) M) : F_X1_tight 58 M = some (nI (csN g s (gN g) (2 ^ gH g - 1) % 1000)) := by
  have p2 := p2_lt c.gp
  have cu := (cs_ub (n := 2 ^ gH g - 1) c.gp c.gd (Nat.le_refl (gN g))).1
  unfold F_X1_tight
  rw [Lp_58_0 c.1, ob_t, Lc_58 c.1, c.allX x, ob_t, La_59 c.1 (by omega), ob_t, x.2.1 _ p2.1, show nI (csN g s (gN g) (2 ^ gH g - 1)) - nI (csN g s (gN g) (2 ^ gH g - 1)) / (1000 : Int32) * (1000 : Int32) = _ from nI_rem (b := 1000) (by omega) (by omega) (by omega)]
theorem CQ.without {h : Nat} (c : CQ M p g s) (x : CXm g s (gN g) M) (hh : h < gH g) : F_X1_lodgeWithout 58 (nI h) M = some (nI (csN g s (gN g) (mns (2 ^ gH g - 1) h) / 1000)) := by
  have g1 := c.gp.1
  have p2 := p2_lt c.gp
  have ml := mns_le (2 ^ gH g - 1) h
  have cu := (cs_ub (n := mns (2 ^ gH g - 1) h) c.gp c.gd (Nat.le_refl (gN g))).1
  have e1 : nI (2 ^ gH g - 1) &&& (((1 : Int32) <<< (nI h &&& 31)) ^^^ -1) = _ := ms_1 (2 ^ gH g - 1) (by omega) h (by omega)
  unfold F_X1_lodgeWithout
  rw [Lp_58_0 c.1, ob_t, Lc_58 c.1, c.allX x, ob_t, e1, La_59 c.1 (by omega), ob_t, x.2.1 _ (by omega), show nI (csN g s (gN g) (mns (2 ^ gH g - 1) h)) / (1000 : Int32) = _ from nI_div (b := 1000) (by omega) (by omega) (by omega)]
theorem CQ.neededX (c : CQ M p g s) : ∃ M', F_X8_needed 0 M = some (neS g s, M') ∧ QC M M' := by
  have g1 := c.gp.1
  obtain ⟨M1, e1, w1, x1⟩ := c.solveX
  have c1 := c.c w1
  refine ⟨M1, ?_, w1⟩
  have cu := fun n => (cs_ub (n := n) c.gp c.gd (Nat.le_refl (gN g))).1
  have e := loop_p (step := fun z : Int32 × Int32 => F_X8_needed_s19 0 M1 z.1 z.2) (fun i a => (a, nI i)) (fun h a => if csN g s (gN g) (mns (2 ^ gH g - 1) h) / 1000 ≤ csN g s (gN g) (2 ^ gH g - 1) / 1000 then a else a ||| one h) 0 (gH g) (r := neS g s) (by
    intro i hi
    have u1 := cu (2 ^ gH g - 1)
    have u2 := cu (mns (2 ^ gH g - 1) i)
    unfold F_X8_needed_s19
    dsimp only
    rw [c1.pp, ob_t, c1.nH, ob_t, if_neg (nI_ge hi (show gH g < 2 ^ 31 by omega)), Lp_0_13 c1.1, ob_t, Lc_58 c1.1, c1.without x1 hi, ob_t, ob_t, Lc_58 c1.1, c1.lodgeX x1, ob_t, nm_t, nI_1]
    by_cases z : csN g s (gN g) (mns (2 ^ gH g - 1) i) / 1000 ≤ csN g s (gN g) (2 ^ gH g - 1) / 1000
    · rw [if_pos z, if_pos (nI_le z (by omega))]
    · rw [if_neg z, if_neg (nI_ge (by omega) (by omega))]; rfl) (by
    unfold F_X8_needed_s19
    dsimp only
    rw [c1.pp, ob_t, c1.nH, ob_t, if_pos (nI_le (Nat.le_refl (gH g)) (show gH g < 2 ^ 31 by omega))]
    rfl)
  have e' : loop (fun z : Int32 × Int32 => F_X8_needed_s19 0 M1 z.1 z.2) ((0 : Int32), (0 : Int32)) = _ := e
  unfold F_X8_needed
  rw [Lp_0_13 c.1, ob_t, c.pp, ob_t, Lp_0_4 c.1, ob_t, Lc_58 c.1, e1, ob_t, e', ob_t]
theorem MZu.neededX (m : MZu M g s) : ∃ M', F_X9_needed 67 M = some (neS g s, M') ∧ Wr [85, 86, 87] M M' := by
  have g1 := m.b.gp.1
  have p2 := p2_lt m.b.gp
  obtain ⟨M1, e1, w1, x1⟩ := m.lays
  have m1 := m.w3 w1
  refine ⟨M1, ?_, w1⟩
  have cu := fun n => (cs_ub (n := n) m.b.gp m.b.gd (Nat.le_refl (gN g))).1
  have l0 : F_X9_leastOf 67 0 0 M1 = some (nI (f10 (csN g s (gN g) (2 ^ gH g - 1)))) := m1.leastOf x1 (q := 0) (n := 0) (by omega) (by omega) (by omega)
  have d0 := f10_b (v := csN g s (gN g) (2 ^ gH g - 1)) (by have := cu (2 ^ gH g - 1); omega)
  have e := loop_p (step := fun z : Int32 × Int32 => F_X9_needed_s19 67 (nI (csN g s (gN g) (2 ^ gH g - 1) / 1000)) M1 z.1 z.2) (fun i a => (a, nI i)) (fun h a => if csN g s (gN g) (mns (2 ^ gH g - 1) h) / 1000 ≤ csN g s (gN g) (2 ^ gH g - 1) / 1000 then a else a ||| one h) 0 (gH g) (r := neS g s) (by
    intro i hi
    have u1 := cu (2 ^ gH g - 1)
    have u2 := cu (mns (2 ^ gH g - 1) i)
    have p8 := ms_8 (gH g) g1 i hi
    have l1 := m1.leastOf x1 (q := 0) (n := 0 + 2 ^ i) (by omega) (by omega) p8.2.1
    have l1' : F_X9_leastOf 67 0 ((1 : Int32) <<< (nI i &&& 31)) M1 = some (nI (f10 (csN g s (gN g) (mns (2 ^ gH g - 1) i)))) := by
      have : (1 : Int32) <<< (nI i &&& 31) = nI (0 + 2 ^ i) := p8.1
      rw [this, p8.2.2.1]
      rw [Nat.sub_zero, Nat.zero_add] at l1
      rw [Nat.zero_add]
      exact l1
    have d1 := f10_b (v := csN g s (gN g) (mns (2 ^ gH g - 1) i)) (by omega)
    unfold F_X9_needed_s19
    dsimp only
    rw [m1.b.nH, ob_t, if_neg (nI_ge hi (show gH g < 2 ^ 31 by omega)), Lc_67 m1.lay, m1.b.isB (by omega), ob_t, Lc_67 m1.lay, l1', ob_t, show nI (f10 (csN g s (gN g) (mns (2 ^ gH g - 1) i))) / (10000 : Int32) = _ from nI_div (b := 10000) (by omega) (by omega) (by omega), d1.2.1, nm_t, nI_1, or0]
    cases hb : bitI (sBur s) i
    · rw [if_pos (by simp)]
      by_cases z : csN g s (gN g) (mns (2 ^ gH g - 1) i) / 1000 ≤ csN g s (gN g) (2 ^ gH g - 1) / 1000
      · rw [if_pos z, if_pos (nI_le z (by omega))]
      · rw [if_neg z, if_neg (nI_ge (by omega) (by omega))]; rfl
    · rw [if_neg (by simp)]
      have z := cs_none (s := s) m.b.gp hi (fun q _ => by
        rcases goI_01 (g := g) (s := s) (p := q) (h := i) (d := dampS g s) with ⟨-, z⟩ | ⟨z, -⟩
        · exact absurd hb z.1
        · exact z) (gN g) (2 ^ gH g - 1) (Nat.le_refl _) (by omega)
      rw [z, if_pos (Nat.le_refl _)]) (by
    unfold F_X9_needed_s19
    dsimp only
    rw [m1.b.nH, ob_t, if_pos (nI_le (Nat.le_refl (gH g)) (show gH g < 2 ^ 31 by omega))]
    rfl)
  have e' : loop (fun z : Int32 × Int32 => F_X9_needed_s19 67 (nI (csN g s (gN g) (2 ^ gH g - 1) / 1000)) M1 z.1 z.2) ((0 : Int32), (0 : Int32)) = _ := e
  unfold F_X9_needed
  rw [Lc_67 m.lay, e1, ob_t, Lc_67 m1.lay, l0, ob_t, show nI (f10 (csN g s (gN g) (2 ^ gH g - 1))) / (10000 : Int32) = _ from nI_div (b := 10000) (by omega) (by omega) (by omega), d0.2.1, e', ob_t]
theorem P_match (c : CQ M p g s) (x1 : Int32) : PR 0 M g s (F_X8_match 0 x1 M) (F_X9_match 67 x1) := by
  have g1 := c.gp.1
  have g2 := c.gp.2.1
  rcases ncase x1 0 1 (by omega) (by omega) with ⟨a1, -, ha1, rfl⟩ | hx
  rotate_left 1
  · refine Or.inr (Or.inl ⟨by decide, ?_, fun M1 m => ?_⟩)
    · unfold CT F_X8_match
      have gx : F_X8_needWhat x1 (1 : Int32) M = _ := c.needW' (b := 1) hx
      simp only [Lc_0 c.1, bdV_l, bdV_r, gx]
    · obtain ⟨e0, m0, -⟩ := m.zero
      have mx : F_X9_isWhat 67 x1 (1 : Int32) _ = _ := m0.isW' (b := 1) hx
      refine MT.mk m (v := 0) ?_
      unfold F_X9_match
      simp only [e0, ob_t, Lc_67 m0.lay, bd2_t, ifn1, mx]
      rfl
  refine Or.inl ⟨if a1 = 0 then nI (csN g s (gN g) (2 ^ gH g - 1) / 1000) else nI (csN g s (gN g) (2 ^ gH g - 1) % 1000), ?_, fun M1 m => ?_⟩
  · unfold CR F_X8_match
    have gc1 : F_X8_needWhat (nI a1) (1 : Int32) M = _ := needW (b := 1) ha1 (by omega)
    simp only [Lc_0 c.1, bdV_l, ob_t, gc1]
    obtain ⟨M2, e2, w2, x2⟩ := c.solveX
    have c2 := c.c w2
    refine ⟨M2, ?_, w2⟩
    rw [Lp_0_13 c.1, ob_t, c.pp, ob_t, Lp_0_4 c.1, ob_t, Lc_58 c.1, e2, ob_t, Lp_0_13 c2.1, ob_t, Lc_58 c2.1, c2.lodgeX x2, ob_t, ob_t, Lc_58 c2.1, c2.tightX x2, ob_t]
    have : a1 = 0 ∨ a1 = 1 := by omega
    rcases this with rfl | rfl
    · rw [if_pos (show nI 0 = 0 from rfl), if_pos rfl]
    · rw [if_neg (show ¬ nI 1 = 0 by decide), if_neg (show ¬ 1 = 0 by omega)]
  · obtain ⟨e0, m0, w0⟩ := m.zero
    have gm1 : F_X9_isWhat 67 (nI a1) (1 : Int32) _ = _ := m0.isW (b := 1) ha1 (by omega)
    unfold MR F_X9_match
    simp only [e0, ob_t, Lc_67 m0.lay, bd2_t, ifn1, gm1]
    generalize stI M1 67 0 0 = M0 at *
    obtain ⟨M2, e2, w2, x2⟩ := m0.lays
    have m2 := m0.wr w2 (by decide)
    have p2 := p2_lt m0.b.gp
    have l0 : F_X9_leastOf 67 0 0 M2 = some (nI (f10 (csN g s (gN g) (2 ^ gH g - 1)))) := m2.1.leastOf x2 (q := 0) (n := 0) (by omega) (by omega) (by omega)
    have cu := (cs_ub (n := 2 ^ gH g - 1) m0.b.gp m0.b.gd (Nat.le_refl (gN g))).1
    have d0 := f10_b (v := csN g s (gN g) (2 ^ gH g - 1)) (by omega)
    refine ⟨M2, ?_, w0.trans m2.2, m2.1⟩
    rw [e2, ob_t, Lc_67 m2.1.lay, l0, ob_t]
    have : a1 = 0 ∨ a1 = 1 := by omega
    rcases this with rfl | rfl
    · rw [if_pos (show nI 0 = 0 from rfl), if_pos rfl, show nI (f10 (csN g s (gN g) (2 ^ gH g - 1))) / (10000 : Int32) = _ from nI_div (b := 10000) (by omega) (by omega) (by omega), d0.2.1]
    · rw [if_neg (show ¬ nI 1 = 0 by decide), if_neg (show ¬ 1 = 0 by omega), show nI (f10 (csN g s (gN g) (2 ^ gH g - 1))) - nI (f10 (csN g s (gN g) (2 ^ gH g - 1))) / (10000 : Int32) * (10000 : Int32) = _ from nI_rem (b := 10000) (by omega) (by omega) (by omega), d0.2.2]
theorem P_matched (c : CQ M p g s) (x1 : Int32) : PR 0 M g s (F_X8_matched 0 x1 M) (F_X9_matched 67 x1) := by
  have g1 := c.gp.1
  have g2 := c.gp.2.1
  rcases pcase g x1 g2 with ⟨a1, ha1, rfl⟩ | hx
  rotate_left 1
  · refine Or.inr (Or.inl ⟨by decide, ?_, fun M1 m => ?_⟩)
    · unfold CT F_X8_matched
      have gx := c.needP' hx
      simp only [Lc_0 c.1, bdV_l, bdV_r, gx]
    · obtain ⟨e0, m0, -⟩ := m.zero
      have mx := m0.isP' hx
      refine MT.mk m (v := 0) ?_
      unfold F_X9_matched
      simp only [e0, ob_t, Lc_67 m0.lay, bd2_t, ifn1, mx]
      rfl
  refine Or.inl ⟨maS g s a1, ?_, fun M1 m => ?_⟩
  · unfold CR F_X8_matched
    have gc1 := c.needP ha1
    simp only [Lc_0 c.1, bdV_l, ob_t, gc1]
    obtain ⟨M2, e2, w2, x2⟩ := c.solveX
    have c2 := c.c w2
    refine ⟨M2, ?_, w2⟩
    rw [Lp_0_13 c.1, ob_t, c.pp, ob_t, Lp_0_4 c.1, ob_t, Lc_58 c.1, e2, ob_t, Lp_0_13 c2.1, ob_t, Lc_58 c2.1, c2.houseOf x2 ha1, ob_t]
  · obtain ⟨e0, m0, w0⟩ := m.zero
    have gm1 := m0.isP ha1
    unfold MR F_X9_matched
    simp only [e0, ob_t, Lc_67 m0.lay, bd2_t, ifn1, gm1]
    generalize stI M1 67 0 0 = M0 at *
    obtain ⟨M2, e2, w2, x2⟩ := m0.lays
    have m2 := m0.wr w2 (by decide)
    obtain ⟨⟨r, M3⟩, e3, r3, w3⟩ := m2.1.matchedL x2 ha1
    dsimp only at r3 w3
    have m3 := m2.1.wr w3 (by decide)
    refine ⟨M3, ?_, (w0.trans m2.2).trans m3.2, m3.1⟩
    rw [e2, ob_t, e3, ob_t, u2_t, r3]
end
