/-! ===== the match of the reference ===== -/
section
variable {M M' : Mem} {p u h q k n : Nat} {g : Pg} {s : Sg} {D : Int}
theorem MZu.go' (m : MZu M g s) (hu : u < gN g) (hh : h < gH g) : ∃ M', F_X9_wouldGo 67 0 (nI u) (nI h) M = some (goI g s u h (dampS g s), M') ∧ Wr [85, 86] M M' := by
  obtain ⟨M', e, w⟩ := m.b.go hu hh (Or.inl m.1.2)
  have eo : dmp (mI M 67 46) g s = dampS g s := by unfold dmp; rw [if_pos m.1.2]
  rw [eo] at e
  exact ⟨M', e, w⟩
theorem MZu.w3 (m : MZu M g s) (w : Wr [85, 86, 87] M M') : MZu M' g s := (m.wr w (by decide)).1
theorem Wr.to3 (w : Wr [85, 86] M M') : Wr [85, 86, 87] M M' := w.mono (by decide)
def alN (g : Pg) : Nat := 2 ^ gH g - 1
/-- what the reference keeps of the last k -/
def MX (g : Pg) (s : Sg) (k : Nat) (M : Mem) : Prop := ∀ q, gN g - k ≤ q → q < gN g → ∀ n, n < 2 ^ gH g → mI M 87 (256 * q + n) = nI (f10 (csN g s (gN g - q) (2 ^ gH g - 1 - n)))
theorem MX.wr (x : MX g s k M) (w : Wr [85, 86] M M') : MX g s k M' := fun q h1 h2 n hn => by rw [wr_mI w (by decide)]; exact x q h1 h2 n hn
theorem MZu.leastOf (m : MZu M g s) (x : MX g s k M) (h1 : gN g - k ≤ q) (h2 : q ≤ gN g) (hn : n < 2 ^ gH g) : F_X9_leastOf 67 (nI q) (nI n) M = some (nI (f10 (csN g s (gN g - q) (2 ^ gH g - 1 - n)))) := by
  have g1 := m.b.gp.1
  have g2 := m.b.gp.2.1
  have p7 := ms_7 (gH g) g1
  unfold F_X9_leastOf
  rw [m.b.nN, ob_t]
  by_cases e : q = gN g
  · rw [if_pos (by rw [e]), e, Nat.sub_self, show csN g s 0 (2 ^ gH g - 1 - n) = 0 from rfl]; rfl
  · rw [if_neg (fun z => e ((nI_eq (by omega) (by omega)).mp z)), Lp_67_47 m.lay, ob_t, show (256 : Int32) * nI q = nI (256 * q) from nI_mul (a := 256), nI_add, La_87 m.lay (by omega), ob_t, x q h1 (by omega) n hn]
theorem cs_ub (hg : GdP g) (hd : GdS D g s) (hk : k ≤ gN g) : csN g s k n ≤ 8000 ∧ csN g s k n % 1000 ≤ 98 * k := by
  have g2 := hg.2.1
  have := (cs_bnd hd k n hk).resolve_right (by omega)
  omega
theorem MZu.byHouse (m : MZu M g s) (x : MX g s k M) (hk : k < gN g) (hh : h < gH g) (hn : n < 2 ^ gH g) (hb : n.testBit h = false) : F_X9_byHouse 67 (nI (gN g - (k + 1))) (nI h) (nI n) M = some (nI (f10 (csN g s k (mns (2 ^ gH g - 1 - n) h) + tgN s (gN g - (k + 1)) h))) := by
  have g1 := m.b.gp.1
  have g2 := m.b.gp.2.1
  have p5 := ms_5 (gH g) g1 n hn h hh hb
  have p4 := ms_4 (gH g) g1 n hn h hh
  have te := tg_e m.b.gd (show gN g - (k + 1) < gN g by omega) hh
  have e0 : mns (2 ^ gH g - 1 - n) h = 2 ^ gH g - 1 - (n + 2 ^ h) := by
    unfold mns; rw [if_pos (by rw [p4, hb]; rfl)]; omega
  have el := m.leastOf x (q := gN g - (k + 1) + 1) (n := n + 2 ^ h) (by omega) (by omega) p5.2
  rw [show gN g - (gN g - (k + 1) + 1) = k by omega, ← e0] at el
  have e1 : nI n ||| ((1 : Int32) <<< (nI h &&& 31)) = nI (n + 2 ^ h) := p5.1
  have cb := cs_ub (n := mns (2 ^ gH g - 1 - n) h) m.b.gp m.b.gd (Nat.le_of_lt hk)
  unfold F_X9_byHouse
  rw [Lc_67 m.lay, m.b.tig (by omega) hh, ob_t, Lc_67 m.lay, e1, nI_1, el, ob_t, te.1, nI_add, f10_t (by omega)]
theorem mn_f10 {a b : Nat} (ha : a ≤ 9000) (hb : b ≤ 9000) : mnI (nI (f10 a)) (nI (f10 b)) = nI (f10 (min a b)) := by
  have fa := (f10_b ha).1
  have fb := (f10_b hb).1
  rw [ti_eq, mnI_toInt, nI_toInt (by omega), nI_toInt (by omega)]
  by_cases c : a ≤ b
  · have := f10_le.mpr c
    rw [Nat.min_eq_left c, nI_toInt (by omega)]; omega
  · have := f10_le.mpr (show b ≤ a by omega)
    rw [Nat.min_eq_right (by omega), nI_toInt (by omega)]; omega
/-- the least of lodging and of the first i houses -/
def lsR (g : Pg) (s : Sg) (f : Nat → Nat) (q n i x : Nat) : Prop := x ≤ f n + 1000 ∧ (∀ h, h < i → okM g s q n h → x ≤ f (mns n h) + tgN s q h) ∧ (x = f n + 1000 ∨ ∃ h, h < i ∧ okM g s q n h ∧ x = f (mns n h) + tgN s q h)
theorem lsR_eq {f : Nat → Nat} {x : Nat} (hx : lsR g s f q n (gH g) x) : x = (cpN g s f q n).1 := by
  obtain ⟨h1, h2, h3⟩ := cp_all (g := g) (s := s) (f := f) (q := q) (n := n)
  generalize cpN g s f q n = a at *
  obtain ⟨x1, x2, x3⟩ := hx
  have le1 : x ≤ a.1 := by
    rcases h3 with ⟨-, z, -⟩ | ⟨-, z1, z2, z3, -⟩
    · omega
    · have := x2 a.2 z1 z2; omega
  have le2 : a.1 ≤ x := by
    rcases x3 with z | ⟨h, z1, z2, z3⟩
    · omega
    · have := h2 h (by omega) z1 z2; omega
  omega
theorem MZu.row (m : MZu M g s) (x : MX g s k M) (hk : k < gN g) (hn : n < 2 ^ gH g) : ∃ r, loop (fun z : Int32 × Int32 × Mem => F_X9_laysMatch_s39 67 (nI (gN g - (k + 1))) (nI n) z.1 z.2.1 z.2.2) ((10000 : Int32) + nI (f10 (csN g s k (2 ^ gH g - 1 - n))), (0 : Int32), M) = some r ∧ r.1 = nI (f10 (csN g s (k + 1) (2 ^ gH g - 1 - n))) ∧ Wr [85, 86] M r.2 := by
  have g1 := m.b.gp.1
  have g2 := m.b.gp.2.1
  have p7 := ms_7 (gH g) g1
  have cu : ∀ v, csN g s k v ≤ 8000 := fun v => (cs_ub m.b.gp m.b.gd (Nat.le_of_lt hk)).1
  refine loop_ex (step := fun z : Int32 × Int32 × Mem => F_X9_laysMatch_s39 67 (nI (gN g - (k + 1))) (nI n) z.1 z.2.1 z.2.2) (fun i z => z.2.1 = nI i ∧ (∃ y, z.1 = nI (f10 y) ∧ lsR g s (csN g s k) (gN g - (k + 1)) (2 ^ gH g - 1 - n) i y) ∧ Wr [85, 86] M z.2.2) _ (gH g) ?_ ⟨rfl, ⟨csN g s k (2 ^ gH g - 1 - n) + 1000, by rw [f10_l]; exact nI_add 10000 _, Nat.le_refl _, fun h z => by omega, Or.inl rfl⟩, Wr.rfl'⟩
  rintro i ⟨v, j, M1⟩ hi ⟨h1, ⟨y, h2, h3⟩, w1⟩
  dsimp only at h1 h2 w1
  subst h1 h2
  have m1 := m.w3 w1.to3
  unfold F_X9_laysMatch_s39
  dsimp only
  rw [m1.b.nH, ob_t]
  by_cases e : i = gH g
  · subst e
    rw [if_pos (nI_le (Nat.le_refl (gH g)) (show gH g < 2 ^ 31 by omega))]
    exact Or.inl ⟨_, rfl, by rw [lsR_eq h3]; rfl, w1⟩
  · have hi' : i < gH g := by omega
    refine Or.inr ⟨hi', ?_⟩
    have b2 := ms_2 n (by omega) i (by omega)
    have b4 := ms_4 (gH g) g1 n hn i hi'
    have skip : ¬ okM g s (gN g - (k + 1)) (2 ^ gH g - 1 - n) i → lsR g s (csN g s k) (gN g - (k + 1)) (2 ^ gH g - 1 - n) (i + 1) y := fun no => ⟨h3.1, fun h z1 z2 => by
      by_cases e : h = i
      · rw [e] at z2; exact absurd z2 no
      · exact h3.2.1 h (by omega) z2, by
      rcases h3.2.2 with z | ⟨h, z1, z2⟩
      · exact Or.inl z
      · exact Or.inr ⟨h, by omega, z2⟩⟩
    rw [if_neg (nI_ge hi' (show gH g < 2 ^ 31 by omega)), nI_1]
    by_cases b : n.testBit i = true
    · rw [shr1 (by omega) (by rw [b2]; exact b), if_neg (by decide)]
      exact ⟨_, rfl, rfl, ⟨y, rfl, skip fun z => by have := z.1; rw [b4, b] at this; cases this⟩, w1⟩
    · obtain ⟨M2, e2, w2⟩ := m1.go' (u := gN g - (k + 1)) (by omega) hi'
      have m2 := m1.w3 w2.to3
      have x2 := (x.wr w1).wr w2
      have b' : n.testBit i = false := by simpa using b
      rw [if_pos (shB0 (by omega) (by rw [b2]; exact b)), Lc_67 m1.lay, e2, bd2_t]
      by_cases z : goI g s (gN g - (k + 1)) i (dampS g s) = 0
      · rw [if_pos z]
        exact ⟨_, rfl, rfl, ⟨y, rfl, skip fun q => q.2 z⟩, w1.trans w2⟩
      · have ok : okM g s (gN g - (k + 1)) (2 ^ gH g - 1 - n) i := ⟨by rw [b4, b']; rfl, z⟩
        have te := (tg_e m.b.gd (show gN g - (k + 1) < gN g by omega) hi').2
        have y9 : y ≤ 9000 := by have := h3.1; have := cu (2 ^ gH g - 1 - n); omega
        have c9 := cu (mns (2 ^ gH g - 1 - n) i)
        rw [if_neg z, Lc_67 m2.lay, m2.byHouse x2 hk hi' hn b', ob_t, F_lesser, ob_t, mn_f10 y9 (by omega)]
        refine ⟨_, rfl, rfl, ⟨_, rfl, ?_, fun h z1 z2 => ?_, ?_⟩, w1.trans w2⟩
        · have := h3.1; omega
        · by_cases e : h = i
          · rw [e]; omega
          · have := h3.2.1 h (by omega) z2; omega
        · by_cases c : y ≤ csN g s k (mns (2 ^ gH g - 1 - n) i) + tgN s (gN g - (k + 1)) i
          · rw [Nat.min_eq_left c]
            rcases h3.2.2 with z | ⟨h, z1, z2⟩
            · exact Or.inl z
            · exact Or.inr ⟨h, by omega, z2⟩
          · rw [Nat.min_eq_right (by omega)]
            exact Or.inr ⟨i, by omega, ok, rfl⟩
theorem MZu.rows (m : MZu M g s) (x : MX g s k M) (hk : k < gN g) : ∃ M', loop (fun z : Int32 × Mem => F_X9_laysMatch_s13 67 (nI (gN g - (k + 1))) z.1 z.2) ((0 : Int32), M) = some M' ∧ Wr [85, 86, 87] M M' ∧ MX g s (k + 1) M' := by
  have g1 := m.b.gp.1
  have g2 := m.b.gp.2.1
  have p7 := ms_7 (gH g) g1
  obtain ⟨M1, e1, w1, x1, y1⟩ := loop_mm (step := fun z : Int32 × Mem => F_X9_laysMatch_s13 67 (nI (gN g - (k + 1))) z.1 z.2) (fun i M' => (nI i, M')) (fun M' => M') (2 ^ gH g) (fun i M' => Wr [85, 86, 87] M M' ∧ MX g s k M' ∧ ∀ n, n < i → mI M' 87 (256 * (gN g - (k + 1)) + n) = nI (f10 (csN g s (k + 1) (2 ^ gH g - 1 - n)))) (M := M) ⟨Wr.rfl', x, fun n z => by omega⟩ (by
    rintro i M' hi ⟨w', x', y'⟩
    have m' := m.w3 w'
    have el := m'.leastOf x' (q := gN g - (k + 1) + 1) (n := i) (by omega) (by omega) hi
    rw [show gN g - (gN g - (k + 1) + 1) = k by omega] at el
    obtain ⟨⟨v, M3⟩, e3, r3, w3⟩ := m'.row x' hk hi
    dsimp only at r3 w3
    have m3 := m'.w3 w3.to3
    refine ⟨stI M3 87 (256 * (gN g - (k + 1)) + i) v, ?_, (w'.trans w3.to3).st (by decide), fun q q1 q2 n hn => ?_, fun n hn => ?_⟩
    · unfold F_X9_laysMatch_s13
      dsimp only
      rw [m'.b.nH, ob_t, p7.1, if_neg (nI_ge hi (by omega)), Lc_67 m'.lay, nI_1, el, ob_t, e3, ob_t, u2_t, Lp_67_47 m3.lay, ob_t, show (256 : Int32) * nI (gN g - (k + 1)) = nI (256 * (gN g - (k + 1))) from nI_mul (a := 256), nI_add, Lw_87 m3.lay (by omega), ob_t, nI_1]
    · rw [mI_steq, upg_ne (by omega)]; exact (x'.wr w3) q q1 q2 n hn
    · rw [mI_steq]
      by_cases e : n = i
      · subst e; rw [upg_eq, r3]
      · rw [upg_ne (by omega), wr_mI w3 (by decide)]; exact y' n (by omega)) (by
    rintro M' ⟨w', -⟩
    unfold F_X9_laysMatch_s13
    dsimp only
    rw [(m.w3 w').b.nH, ob_t, p7.1, if_pos (nI_le (Nat.le_refl _) (by omega))])
  refine ⟨M1, e1, w1, fun q q1 q2 n hn => ?_⟩
  by_cases e : q = gN g - (k + 1)
  · rw [e, y1 n hn, show gN g - (gN g - (k + 1)) = k + 1 by omega]
  · exact x1 q (by omega) q2 n hn
theorem MZu.lays (m : MZu M g s) : ∃ M', F_X9_laysMatch 67 M = some M' ∧ Wr [85, 86, 87] M M' ∧ MX g s (gN g) M' := by
  obtain ⟨M1, e1, w1, x1⟩ := loop_mm (step := fun z : Int32 × Mem => F_X9_laysMatch_s7 67 z.1 z.2) (fun i M' => (dwn (gN g) i, M')) (fun M' => M') (gN g) (fun i M' => Wr [85, 86, 87] M M' ∧ MX g s i M') (M := M) ⟨Wr.rfl', fun q a b => by omega⟩ (by
    rintro i M' hi ⟨w', x'⟩
    obtain ⟨M3, e3, w3, x3⟩ := (m.w3 w').rows x' hi
    have g2 := m.b.gp.2.1
    refine ⟨M3, ?_, w'.trans w3, x3⟩
    unfold F_X9_laysMatch_s7
    dsimp only
    rw [dwn_s hi, dwn_e hi, if_neg (nI_pos (by omega)), show gN g - 1 - i = gN g - (i + 1) by omega, e3, ob_t]) (by
    rintro M' ⟨w', -⟩
    unfold F_X9_laysMatch_s7
    dsimp only
    rw [if_pos dwn_n])
  refine ⟨M1, ?_, w1, x1⟩
  unfold F_X9_laysMatch
  rw [m.b.nN, ob_t, dwn_0, e1, ob_t]
end
