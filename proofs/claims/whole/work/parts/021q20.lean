/-! ===== the match of the class ===== -/
section
variable {M M' : Mem} {p u h q k n : Nat} {g : Pg} {s : Sg} {D : Int}
def dwn (n j : Nat) : Int32 := nI (n - j) + (-1)
theorem dwn_0 {n : Nat} : nI n - 1 = dwn n 0 := by unfold dwn; rw [Nat.sub_zero, Int32.sub_eq_add_neg]
theorem dwn_e {n j : Nat} (h : j < n) : dwn n j = nI (n - 1 - j) := by
  unfold dwn; rw [show n - j = (n - 1 - j) + 1 by omega]; exact nI_m1 _
theorem dwn_s {n j : Nat} (h : j < n) : dwn n j + (-1) = dwn n (j + 1) := by
  rw [dwn_e h]; unfold dwn; rw [show n - 1 - j = n - (j + 1) by omega]
theorem dwn_n {n : Nat} : dwn n n < 0 := by unfold dwn; rw [Nat.sub_self]; decide
theorem CQ.ent {d : Int32} (c : CQ M p g s) (hq : q < gN g) (hh : h < gH g) : ∃ M', F_X2_enters p 24 (nI q) (nI h) d M = some (goI g s q h d, M') ∧ QC M M' ∧ ∀ k, 58 ≤ k → k < 62 → mI M' k = mI M k := by
  obtain ⟨M', v, e, hv, w⟩ := F_enters (d := d) c.pl c.st (by have := c.2.1; omega) (by unfold NC; omega) hq hh
  have := goI_or hv
  subst this
  exact ⟨M', e, w.c fun k hk => WP2c c.2.1 hk, fun k k1 k2 => wr_mI w (by have := c.2.1; simp; omega)⟩
noncomputable def faS (g : Pg) (s : Sg) (q h : Nat) : Int32 := if goI g s q h (dampS g s) = 0 then -1 else tightS s q h
theorem CQ.fare (c : CQ M p g s) (hh : mI M 58 3 = nI (gH g)) (hq : q < gN g) : ∃ M', loop (fun z : Int32 × Mem => F_X1_solve_s46 58 p 24 (dampS g s) (nI q) z.1 z.2) ((0 : Int32), M) = some M' ∧ QC M M' ∧ mI M' 58 = mI M 58 ∧ mI M' 59 = mI M 59 ∧ mI M' 60 = mI M 60 ∧ ∀ h, h < gH g → mI M' 61 h = faS g s q h := by
  have g1 := c.gp.1
  exact loop_mm (step := fun z : Int32 × Mem => F_X1_solve_s46 58 p 24 (dampS g s) (nI q) z.1 z.2) (fun i M' => (nI i, M')) (fun M' => M') (gH g) (fun i M' => QC M M' ∧ mI M' 58 = mI M 58 ∧ mI M' 59 = mI M 59 ∧ mI M' 60 = mI M 60 ∧ ∀ h, h < i → mI M' 61 h = faS g s q h) (M := M) ⟨QC.rfl', rfl, rfl, rfl, fun h z => by omega⟩ (by
    rintro i M' hi ⟨w', a1, a2, a3, a4⟩
    have c' := c.c w'
    obtain ⟨M3, e3, w3, b3⟩ := c'.ent (d := dampS g s) hq hi
    have c3 := c'.c w3
    refine ⟨stI M3 61 i (faS g s q i), ?_, (w'.trans w3).st (by decide), by rw [mI_stne (by omega), b3 58 (by omega) (by omega)]; exact a1, by rw [mI_stne (by omega), b3 59 (by omega) (by omega)]; exact a2, by rw [mI_stne (by omega), b3 60 (by omega) (by omega)]; exact a3, fun h hh => ?_⟩
    · unfold F_X1_solve_s46 faS
      dsimp only
      rw [Lf_58 c'.1, ob_t, a1, hh, if_neg (nI_ge hi (show gH g < 2 ^ 31 by omega)), c'.ck, e3, bd2_t, Lp_58_2 c3.1, ob_t, Lc_24 c3.1, c3.tig hq hi, ob_t, nI_1]
      by_cases z : goI g s q i (dampS g s) = 0
      · rw [if_pos z, if_pos z, Lw_61 c3.1 (by omega), ob_t]
      · rw [if_neg z, if_neg z, Lw_61 c3.1 (by omega), ob_t]
    · rw [mI_steq]
      by_cases e : h = i
      · subst e; rw [upg_eq]
      · rw [upg_ne e, b3 61 (by omega) (by omega)]; exact a4 h (by omega)) (by
    rintro M' ⟨w', a1, -⟩
    unfold F_X1_solve_s46
    dsimp only
    rw [Lf_58 (c.c w').1, ob_t, a1, hh, if_pos (nI_le (Nat.le_refl (gH g)) (show gH g < 2 ^ 31 by omega))])
theorem pkM_le (hg : GdP g) {f : Nat → Nat} {n j : Nat} (hj : j ≤ gH g) : (itN (stM g s f q n) (f n + 1000, 15) j).2 < 16 ∧ (itN (stM g s f q n) (f n + 1000, 15) j).1 ≤ f n + 1000 := by
  have g1 := hg.1
  obtain ⟨h1, -, h3⟩ := cp_ls (g := g) (s := s) (f := f) (q := q) (n := n) j hj
  refine ⟨?_, h1⟩
  rcases h3 with ⟨z, -⟩ | ⟨-, z, -⟩ <;> omega
theorem CQ.pickL (c : CQ M p g s) (hk : k < gN g) (h8 : k < 8) (hn : n < 2 ^ gH g) (h1 : ∀ m, m ≤ n → mI M 59 m = nI (csN g s k m)) (h2 : ∀ h, h < gH g → mI M 61 h = faS g s (gN g - (k + 1)) h) : loop (fun z : Int32 × Int32 × Int32 => F_X1_pick_s23 58 (nI n) M z.1 z.2.1 z.2.2) (nI (csN g s k n) + 1000, (15 : Int32), nI (gH g) - 1) = some (nI (csN g s (k + 1) n), nI (pkN g s k n)) := by
  have g1 := c.gp.1
  have n2 : n < 256 := by have := (ms_7 (gH g) g1).2.1; omega
  have cb : ∀ m, csN g s k m ≤ 8000 := fun m => by have := (cs_bnd c.gd k m (by omega)).resolve_right (by omega); omega
  rw [show nI (csN g s k n) + 1000 = nI (csN g s k n + 1000) from nI_add _ 1000, dwn_0]
  refine loop_run (step := fun z : Int32 × Int32 × Int32 => F_X1_pick_s23 58 (nI n) M z.1 z.2.1 z.2.2) (fun j => (nI (itN (stM g s (csN g s k) (gN g - (k + 1)) n) (csN g s k n + 1000, 15) j).1, nI (itN (stM g s (csN g s k) (gN g - (k + 1)) n) (csN g s k n + 1000, 15) j).2, dwn (gH g) j)) (gH g) (fun j hj => ?_) ?_
  · have pl := pkM_le (s := s) (q := gN g - (k + 1)) (f := csN g s k) (n := n) c.gp (Nat.le_of_lt hj)
    have cbn := cb n
    show F_X1_pick_s23 58 (nI n) M _ _ (dwn (gH g) j) = some (.inl (nI (stM g s (csN g s k) (gN g - (k + 1)) n j (itN (stM g s (csN g s k) (gN g - (k + 1)) n) (csN g s k n + 1000, 15) j)).1, nI (stM g s (csN g s k) (gN g - (k + 1)) n j (itN (stM g s (csN g s k) (gN g - (k + 1)) n) (csN g s k n + 1000, 15) j)).2, dwn (gH g) (j + 1)))
    generalize itN (stM g s (csN g s k) (gN g - (k + 1)) n) (csN g s k n + 1000, 15) j = a at *
    have hh : gH g - 1 - j < gH g := by omega
    have te := tg_e c.gd (show gN g - (k + 1) < gN g by omega) hh
    have key : F_X1_pick_s23 58 (nI n) M (nI a.1) (nI a.2) (nI (gH g - 1 - j)) = some (.inl (if goI g s (gN g - (k + 1)) (gH g - 1 - j) (dampS g s) = 0 then nI a.1 else if n.testBit (gH g - 1 - j) = true then (if nI a.1 < nI (csN g s k (mns n (gH g - 1 - j)) + tgN s (gN g - (k + 1)) (gH g - 1 - j)) then nI a.1 else nI (csN g s k (mns n (gH g - 1 - j)) + tgN s (gN g - (k + 1)) (gH g - 1 - j))) else nI a.1, if goI g s (gN g - (k + 1)) (gH g - 1 - j) (dampS g s) = 0 then nI a.2 else if n.testBit (gH g - 1 - j) = true then (if nI a.1 < nI (csN g s k (mns n (gH g - 1 - j)) + tgN s (gN g - (k + 1)) (gH g - 1 - j)) then nI a.2 else nI (gH g - 1 - j)) else nI a.2, nI (gH g - 1 - j) + (-1))) := by
      generalize gH g - 1 - j = h at *
      unfold F_X1_pick_s23
      rw [if_neg (nI_pos (by omega)), Lp_58_2 c.1, ob_t, La_61 c.1 (by omega), ob_t, h2 h hh]
      unfold faS
      by_cases z : goI g s (gN g - (k + 1)) h (dampS g s) = 0
      · rw [if_pos z, if_pos z, if_pos z, if_pos rfl]
      · rw [if_neg z, if_neg z, if_neg z, te.1, if_neg (nI_nm1 (by omega))]
        by_cases b : n.testBit h = true
        · have b' : bitI (nI n) h = true := by rw [ms_2 n n2 h (by omega)]; exact b
          have ml := mns_le n h
          have e1 : nI n &&& (((1 : Int32) <<< (nI h &&& 31)) ^^^ -1) = nI (mns n h) := ms_1 n n2 h (by omega)
          rw [if_pos b, if_pos b, if_pos (shr1 (by omega) b'), Lp_58_0 c.1, ob_t, e1, La_59 c.1 (by omega), ob_t, h1 _ ml, ob_t, La_61 c.1 (by omega), ob_t, h2 h hh]
          unfold faS
          rw [if_neg z, te.1, nI_add]
          split <;> rfl
        · have b' : ¬ bitI (nI n) h = true := by rw [ms_2 n n2 h (by omega)]; exact b
          rw [if_neg b, if_neg b, shB0 (by omega) b', if_neg (by decide)]
    rw [← dwn_e hj, dwn_s hj] at key
    rw [key]
    by_cases ok : okM g s (gN g - (k + 1)) n (gH g - 1 - j)
    · have cbm := cb (mns n (gH g - 1 - j))
      rw [stM_y ok, if_neg ok.2, if_neg ok.2, if_pos ok.1, if_pos ok.1]
      by_cases z : a.1 < csN g s k (mns n (gH g - 1 - j)) + tgN s (gN g - (k + 1)) (gH g - 1 - j)
      · rw [if_pos z, if_pos (nI_lt z (by omega)), if_pos (nI_lt z (by omega))]
      · rw [if_neg z, if_neg (nI_nlt (by omega) (by omega)), if_neg (nI_nlt (by omega) (by omega)), dwn_e hj]
    · rw [stM_n ok]
      by_cases z : goI g s (gN g - (k + 1)) (gH g - 1 - j) (dampS g s) = 0
      · rw [if_pos z, if_pos z]
      · have b : ¬ n.testBit (gH g - 1 - j) = true := fun y => ok ⟨y, z⟩
        rw [if_neg z, if_neg z, if_neg b, if_neg b]
  · unfold F_X1_pick_s23
    dsimp only
    rw [if_pos dwn_n]
    rfl
-- four bits each
theorem nb_1 : ∀ q, q < 8 → ∀ w, w < 16 → ∀ j, j < 32 → bitI (nI w <<< (((4 : Int32) * nI q) &&& 31)) j = (decide (j / 4 = q) && w.testBit (j % 4)) := by decide +kernel
theorem nb_2 : ∀ w, w < 16 → ∀ j, j < 32 → bitI (nI w) j = (decide (j < 4) && w.testBit j) := by decide +kernel
theorem nb_3 : ∀ j, j < 32 → bitI 15 j = decide (j < 4) := by decide +kernel
theorem nb_r {x : Int32} {w : Nat} (hq : q < 8) (hw : w < 16) (h : ∀ i, i < 4 → bitI x (4 * q + i) = w.testBit i) : ((x.toUInt32 >>> ((((4 : Int32) * nI q)).toUInt32 &&& Int32.toUInt32 31)).toInt32 &&& (15 : Int32)) = nI w := by
  rw [show (4 : Int32) * nI q = nI (4 * q) from nI_mul (a := 4)]
  refine bit_ext fun j hj => ?_
  rw [bit_and, bit_shrU (by omega), nb_3 j hj, nb_2 w hw j hj]
  by_cases z : j < 4
  · rw [Nat.add_comm, h j z, decide_eq_true z]; simp
  · rw [decide_eq_false z]; simp
def pkV (g : Pg) (s : Sg) (k n : Nat) (x : Int32) : Prop := ∀ j, j < 32 → bitI x j = (decide (gN g - k ≤ j / 4 ∧ j / 4 < gN g) && (pkN g s (gN g - 1 - j / 4) n).testBit (j % 4))
theorem pkN_lt (hg : GdP g) : pkN g s k n < 16 := by
  have := (pkM_le (s := s) (q := gN g - (k + 1)) (f := csN g s k) (n := n) hg (Nat.le_refl _)).1
  exact this
theorem pkV_s {x : Int32} (hg : GdP g) (hk : k < gN g) (hv : pkV g s k n x) : pkV g s (k + 1) n (x ||| (nI (pkN g s k n) <<< (((4 : Int32) * nI (gN g - (k + 1))) &&& 31))) := fun j hj => by
  have g2 := hg.2.1
  rw [bit_or, nb_1 _ (by omega) _ (pkN_lt hg) j hj, hv j hj]
  by_cases e : j / 4 = gN g - (k + 1)
  · rw [decide_eq_true e, decide_eq_false (show ¬ (gN g - k ≤ j / 4 ∧ j / 4 < gN g) by omega), decide_eq_true (show gN g - (k + 1) ≤ j / 4 ∧ j / 4 < gN g by omega), show gN g - 1 - j / 4 = k by omega]
    simp
  · rw [decide_eq_false e]
    by_cases z : gN g - k ≤ j / 4 ∧ j / 4 < gN g
    · rw [decide_eq_true z, decide_eq_true (show gN g - (k + 1) ≤ j / 4 ∧ j / 4 < gN g by omega)]; simp
    · rw [decide_eq_false z, decide_eq_false (show ¬ (gN g - (k + 1) ≤ j / 4 ∧ j / 4 < gN g) by omega)]; simp
/-- costs and picks of the last k -/
def CXm (g : Pg) (s : Sg) (k : Nat) (M : Mem) : Prop := mI M 58 3 = nI (gH g) ∧ (∀ n, n < 2 ^ gH g → mI M 59 n = nI (csN g s k n)) ∧ ∀ n, n < 2 ^ gH g → pkV g s k n (mI M 60 n)
theorem CQ.pick1 (c : CQ M p g s) (hx : CXm g s k M) (hk : k < gN g) : ∃ M', F_X1_solve_s38 58 p 24 (dampS g s) (nI (gN g - (k + 1))) M = some (.inl (nI (gN g - (k + 1)) + (-1), M')) ∧ QC M M' ∧ CXm g s (k + 1) M' := by
  have g1 := c.gp.1
  have g2 := c.gp.2.1
  have p7 := ms_7 (gH g) g1
  have p0 : 0 < 2 ^ gH g := Nat.pow_pos (by omega)
  obtain ⟨M1, e1, w1, a1, a2, a3, a4⟩ := c.fare hx.1 (show gN g - (k + 1) < gN g by omega)
  have c1 := c.c w1
  have eA : F_X1_all 58 M1 = some (dwn (2 ^ gH g) 0) := by
    unfold F_X1_all
    rw [Lf_58 c1.1, ob_t, a1, hx.1, p7.1, dwn_0]
  obtain ⟨M2, e2, w2, b1, b2, b3, b4⟩ := loop_mm (step := fun z : Int32 × Mem => F_X1_solve_s103 58 (nI (gN g - (k + 1))) z.1 z.2) (fun j M' => (dwn (2 ^ gH g) j, M')) (fun M' => M') (2 ^ gH g) (fun j M' => QC M M' ∧ mI M' 58 3 = nI (gH g) ∧ (∀ h, h < gH g → mI M' 61 h = faS g s (gN g - (k + 1)) h) ∧ (∀ n, n < 2 ^ gH g → mI M' 59 n = nI (csN g s (if n < 2 ^ gH g - j then k else k + 1) n)) ∧ ∀ n, n < 2 ^ gH g → pkV g s (if n < 2 ^ gH g - j then k else k + 1) n (mI M' 60 n)) (M := M1) ⟨w1, by rw [a1]; exact hx.1, a4, fun n hn => by rw [a2, if_pos (by omega)]; exact hx.2.1 n hn, fun n hn => by rw [a3, if_pos (by omega)]; exact hx.2.2 n hn⟩ (by
    rintro j M' hj ⟨w', b1, b2, b3, b4⟩
    have c' := c.c w'
    have nl : 2 ^ gH g - 1 - j < 2 ^ gH g := by omega
    have ne : 2 ^ gH g - 1 - j = 2 ^ gH g - (j + 1) := by omega
    have el := c'.pickL hk (by omega) nl (fun m hm => by rw [b3 m (by omega), if_pos (by omega)]) b2
    have c59 : mI M' 59 (2 ^ gH g - 1 - j) = nI (csN g s k (2 ^ gH g - 1 - j)) := by rw [b3 _ nl, if_pos (by omega)]
    have c60 : pkV g s k (2 ^ gH g - 1 - j) (mI M' 60 (2 ^ gH g - 1 - j)) := by have := b4 _ nl; rw [if_pos (by omega)] at this; exact this
    have c61 := pkV_s c.gp hk c60
    refine ⟨stI (stI M' 59 (2 ^ gH g - 1 - j) (nI (csN g s (k + 1) (2 ^ gH g - 1 - j)))) 60 (2 ^ gH g - 1 - j) (mI M' 60 (2 ^ gH g - 1 - j) ||| (nI (pkN g s k (2 ^ gH g - 1 - j)) <<< (((4 : Int32) * nI (gN g - (k + 1))) &&& 31))), ?_, (w'.st (by decide)).st (by decide), by rw [mI_stne (by omega), mI_stne (by omega)]; exact b1, by rw [mI_stne (by omega), mI_stne (by omega)]; exact b2, fun n hn => ?_, fun n hn => ?_⟩
    · unfold F_X1_solve_s103 F_X1_pick
      dsimp only
      rw [dwn_s hj, dwn_e hj, if_neg (nI_pos (by omega)), Lc_58 c'.1, Lp_58_0 c'.1, ob_t, La_59 c'.1 (by omega), ob_t, c59, Lf_58 c'.1, ob_t, b1, el, ob_t, u2_t, ob_t, Lw_59 c'.1 (by omega), ob_t, Lp_58_1 (M := stI M' 59 _ _) c'.1, ob_t, La_60 (M := stI M' 59 _ _) c'.1 (by omega), ob_t, mI_stne (by omega), Lw_60 (M := stI M' 59 _ _) c'.1 (by omega), ob_t, ob_t]
    · rw [mI_stne (by omega), mI_steq]
      by_cases e : n = 2 ^ gH g - 1 - j
      · rw [e, upg_eq, if_neg (by omega)]
      · rw [upg_ne e, b3 n hn]
        by_cases z : n < 2 ^ gH g - j
        · rw [if_pos z, if_pos (by omega)]
        · rw [if_neg z, if_neg (by omega)]
    · rw [mI_steq]
      by_cases e : n = 2 ^ gH g - 1 - j
      · rw [e, upg_eq, if_neg (by omega)]; exact c61
      · rw [upg_ne e, mI_stne (by omega)]
        have := b4 n hn
        by_cases z : n < 2 ^ gH g - j
        · rw [if_pos z] at this; rw [if_pos (by omega)]; exact this
        · rw [if_neg z] at this; rw [if_neg (by omega)]; exact this) (by
    rintro M' ⟨w', -⟩
    unfold F_X1_solve_s103
    dsimp only
    rw [if_pos dwn_n])
  refine ⟨M2, ?_, w2, b1, fun n hn => by rw [b3 n hn, if_neg (by omega)], fun n hn => by have := b4 n hn; rw [if_neg (by omega)] at this; exact this⟩
  unfold F_X1_solve_s38
  rw [if_neg (nI_pos (by omega)), e1, ob_t, Lc_58 c1.1, eA, ob_t, e2, ob_t]
theorem CQ.solveX (c : CQ M p g s) : ∃ M', F_X1_solve 58 p 24 M = some M' ∧ QC M M' ∧ CXm g s (gN g) M' := by
  have g1 := c.gp.1
  have g2 := c.gp.2.1
  have p7 := ms_7 (gH g) g1
  have w0 : QC M (stI M 58 3 (nI (gH g))) := QC.rfl'.st (by decide)
  have c0 := c.c w0
  obtain ⟨fa, f1, f2⟩ := F_fill (M := stI M 58 3 (nI (gH g))) (a := 59) (n := 256) (v := 0) (c0.1.t rfl) (by omega)
  have wa := w0.stR (a := 59) (f := fa) (by decide)
  have ca := c.c wa
  obtain ⟨fb, f3, f4⟩ := F_fill (M := stR (stI M 58 3 (nI (gH g))) 59 fa) (a := 60) (n := 256) (v := 0) (ca.1.t rfl) (by omega)
  have wb := wa.stR (a := 60) (f := fb) (by decide)
  have cb := c.c wb
  have x0 : CXm g s 0 (stR (stR (stI M 58 3 (nI (gH g))) 59 fa) 60 fb) := ⟨by rw [mI_stRne (by omega), mI_stRne (by omega), mI_steq, upg_eq], fun n hn => by rw [mI_stRne (by omega), mI_stReq]; exact f2 n (by omega), fun n hn j hj => by
    rw [mI_stReq, f4 n (by omega), bit_0, decide_eq_false (show ¬ (gN g - 0 ≤ j / 4 ∧ j / 4 < gN g) by omega)]; rfl⟩
  generalize stR (stR (stI M 58 3 (nI (gH g))) 59 fa) 60 fb = Mb at *
  obtain ⟨M2, e2, w2, x2⟩ := loop_mm (step := fun z : Int32 × Mem => F_X1_solve_s38 58 p 24 (dampS g s) z.1 z.2) (fun j M' => (dwn (gN g) j, M')) (fun M' => M') (gN g) (fun j M' => QC M M' ∧ CXm g s j M') (M := Mb) ⟨wb, x0⟩ (by
    rintro j M' hj ⟨w', x'⟩
    obtain ⟨M3, e3, w3, x3⟩ := (c.c w').pick1 x' hj
    refine ⟨M3, ?_, w'.trans w3, x3⟩
    dsimp only
    rw [← dwn_s hj, dwn_e hj, show gN g - 1 - j = gN g - (j + 1) by omega]
    exact e3) (by
    rintro M' ⟨w', -⟩
    unfold F_X1_solve_s38
    dsimp only
    rw [if_pos dwn_n])
  refine ⟨M2, ?_, w2, x2⟩
  unfold F_X1_solve
  rw [c.nH, ob_t, Ls_58 c.1, ob_t, Lp_58_0 c0.1, ob_t, f1, ob_t, Lp_58_1 ca.1, ob_t, f3, ob_t, cb.ck, cb.damp, ob_t, cb.nN, ob_t, dwn_0, e2, ob_t]
end
