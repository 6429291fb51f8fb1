section
variable {M : Mem} {p : Nat} {g : Pg} {s : Sg}

/-! ===== the traders ===== -/
def cRl (g : Pg) (s : Sg) (x l : Int32) : Prop := ∀ u, bitI x u = true ↔ inl g s l u
theorem cR_0 {D : Int} {x l : Int32} (hd : GdS D g s) (hk : okL g s l) (hr : cRl g s x l) : x = 0 ↔ l = 0 := by
  constructor
  · intro z
    refine Classical.byContradiction fun y => ?_
    obtain ⟨b, hb⟩ := bit_n0 y
    obtain ⟨q, hq, e, -⟩ := hd.who (hk b hb).1 (hk b hb).2
    have := (hr q).mpr ⟨hq, b, hb, e⟩
    rw [z, bit_0] at this; cases this
  · intro z
    refine Classical.byContradiction fun y => ?_
    obtain ⟨b, hb⟩ := bit_n0 y
    obtain ⟨-, h, e, -⟩ := (hr b).mp hb
    rw [z, bit_0] at e; cases e
theorem shr1 {x : Int32} {k : Nat} (hk : k < 31) (h : bitI x k = true) : ((x >>> (nI k &&& 31)) &&& 1) = 1 := by rw [bit_shr hk, h]; rfl
theorem shB0 {x : Int32} {k : Nat} (hk : k < 31) (h : ¬ bitI x k = true) : ((x >>> (nI k &&& 31)) &&& 1) = 0 := by rw [bit_shr hk, if_neg h]
theorem CQ.wanted {x l : Int32} {u : Nat} (c : CQ M p g s) (hk : okL g s l) (hr : cRl g s x l) (hu : u < gN g) : F_X7_wanted p 24 x (nI u) M = some (wtS g s l u) := by
  have g1 := c.gp.1
  have g2 := c.gp.2.1
  unfold F_X7_wanted
  have e := loop_p (step := fun z : Int32 × Int32 × Int32 => F_X7_wanted_s10 p 24 x (nI u) M z.1 z.2.1 z.2.2) (fun i a => (a.1, a.2, nI i)) (fun i a => if bitI l i && upN a.2 (keT s u i) then (nI i, keT s u i) else a) ((-1 : Int32), (100 : Int32)) (gH g) (r := wtS g s l u) (by
    intro i hi
    unfold F_X7_wanted_s10
    dsimp only
    rw [c.nH, ob_t, if_neg (nI_ge hi (show gH g < 2 ^ 31 by omega)), Lp_24_5 c.1, ob_t, c.who hi, ob_t, Lp_24_3 c.1, ob_t, c.siz hi, ob_t, Lp_24_6 c.1, ob_t, c.hee hu, ob_t, nI_1]
    generalize itN (fun i a => if bitI l i && upN a.2 (keT s u i) then (nI i, keT s u i) else a) ((-1 : Int32), (100 : Int32)) i = a
    by_cases z : sWho s i = -1
    · have nb : bitI l i = false := by
        cases q : bitI l i
        · rfl
        · exact absurd z (hk i q).2
      rw [if_pos z, nb]; simp
    · obtain ⟨q, hq, e2, e3⟩ := c.gd.who hi z
      rw [if_neg z, e2]
      by_cases b : bitI l i = true
      · rw [if_pos (shr1 (by omega) ((hr q).mpr ⟨hq, i, b, e2⟩)), b]
        show (if a.2 ≤ keT s u i then _ else _) = _
        by_cases c2 : a.2 ≤ keT s u i
        · rw [if_pos c2]; simp [upN, c2]
        · rw [if_neg c2]; simp [upN, c2]; rfl
      · have nx : ¬ bitI x q = true := fun y => by
          obtain ⟨-, h, b2, e4⟩ := (hr q).mp y
          have := e3 h (hk h b2).1 e4
          subst this; exact b b2
        rw [shB0 (by omega) nx, if_neg (by decide)]
        simp [b]) (by
    unfold F_X7_wanted_s10
    dsimp only
    rw [c.nH, ob_t, if_pos (nI_le (Nat.le_refl (gH g)) (show gH g < 2 ^ 31 by omega))]
    rfl)
  exact (congrArg (fun o => Option.bind o _) e).trans rfl
theorem MZu.wantOf {l : Int32} {u : Nat} (m : MZu M g s) (hu : u < gN g) : F_X9_wantOf 67 (nI u) l M = some (wtS g s l u) := by
  have g1 := m.b.gp.1
  have hb : ∀ i, i < gH g → -1000000 ≤ (sSiz s i).toInt ∧ (sSiz s i).toInt ≤ 1000000 := fun i hi => by have := (m.b.gd.2.2.1 i hi).1; unfold bnd at this; omega
  have hh : -1000000 ≤ (sHee s u).toInt ∧ (sHee s u).toInt ≤ 1000000 := by have := (m.b.gd.2.2.2.1 u hu).1; unfold bnd at this; omega
  have hk : bsM upN (fun i => bitI l i) (keT s u) (gH g) = wtS g s l u := bs_eq (v0 := 100) _ (by omega) fun i hi _ => keT_up m.b.gd hu hi
  rw [← hk]
  unfold F_X9_wantOf
  obtain ⟨-, e, -⟩ := loop_bsM (step := fun z : Int32 × Int32 => F_X9_wantOf_s5 67 (nI u) l M z.1 z.2) (fun i b _ => (b, nI i)) (fun b _ => b) upN (fun i => bitI l i) (keT s u) (gH g) (fun _ => True) (M := M) trivial (by omega) (by
    intro i b _ hi _ ho
    refine ⟨M, ?_, trivial⟩
    unfold F_X9_wantOf_s5
    dsimp only
    rw [m.b.nH, ob_t, if_neg (nI_ge hi (show gH g < 2 ^ 31 by omega)), nI_1, if_pos (shB0 (by omega) (by rw [ho]; decide))]) (by
    intro i _ hi _ ho
    refine ⟨M, ?_, trivial⟩
    unfold F_X9_wantOf_s5
    dsimp only
    rw [m.b.nH, ob_t, if_neg (nI_ge hi (show gH g < 2 ^ 31 by omega)), nI_1, if_neg (by rw [shr1 (by omega) ho]; decide), if_pos rfl]) (by
    intro i k _ hi hk2 _ ho
    refine ⟨M, ?_, trivial⟩
    unfold F_X9_wantOf_s5
    dsimp only
    rw [m.b.nH, ob_t, if_neg (nI_ge hi (show gH g < 2 ^ 31 by omega)), nI_1, if_neg (by rw [shr1 (by omega) ho]; decide), if_neg (nI_nm1 (by omega)), Lp_67_41 m.lay, ob_t, m.siz hi, ob_t, ob_t, m.hee hu, ob_t, abI_off (hb i hi) hh, ob_t, ob_t, m.siz (show k < gH g by omega), ob_t, ob_t, m.hee hu, ob_t, abI_off (hb k (by omega)) hh, ob_t]
    show (if keT s u k ≤ keT s u i then _ else _) = _
    by_cases c2 : keT s u k ≤ keT s u i
    · rw [if_pos c2]; simp [upN, c2]
    · rw [if_neg c2]; simp [upN, c2]) (by
    intro b _ _
    unfold F_X9_wantOf_s5
    dsimp only
    rw [m.b.nH, ob_t, if_pos (nI_le (Nat.le_refl (gH g)) (show gH g < 2 ^ 31 by omega))])
  exact (congrArg (fun o => Option.bind o _) e).trans rfl
theorem CQ.ringSteps {l : Int32} {u : Nat} (c : CQ M p g s) (hk : okL g s l) (hl : l ≠ 0) (hw : ∀ u, inl g s l u → mI M 65 u = wtS g s l u) (hu : inl g s l u) : F_X7_ringSteps 62 24 (nI u) M = some (rgS g s l u) := by
  have g1 := c.gp.1
  have g2 := c.gp.2.1
  obtain ⟨-, e, -⟩ := loop_f (step := fun z : Int32 × Int32 => F_X7_ringSteps_s5 62 24 (nI u) M z.1 z.2) (fun i _ => (nI (nxN g s l u i), nI (i + 1))) (fun _ => .inl ()) (fun i _ => .inr (nI (i + 1))) (rgP g s l u) (fun _ _ => True) (fun _ => True) 8 (by
    intro i _ hi _
    have hv := nxN_in c.gp c.gd hk hl hu i
    obtain ⟨k, k1, k2, k3, k4, k5⟩ := nx_in c.gp c.gd hk hl hv.1
    have ev : nxN g s l u (i + 1) = nxS g s l (nxN g s l u i) := rfl
    have hq := k5.1
    have hu1 := hu.1
    unfold F_X7_ringSteps_s5 rgP
    dsimp only
    rw [if_neg (show ¬ (8 : Int32) < nI (i + 1) from nI_nlt (b := i + 1) (a := 8) (by omega) (by omega)), if_neg (nI_nm1 (by have := hv.1; omega)), Lp_62_2 c.1, ob_t, La_65 c.1 (by have := hv.1; omega), ob_t, hw _ hv, k1, if_neg (nI_nm1 (by omega)), Lp_24_5 c.1, ob_t, ob_t, La_65 c.1 (by have := hv.1; omega), ob_t, hw _ hv, k1, c.who k2, ob_t, k4, ev, nI_1]
    by_cases z : nxS g s l (nxN g s l u i) = u
    · rw [if_pos (by rw [z])]; exact Or.inl ⟨z, M, rfl, trivial⟩
    · rw [if_neg (by rw [nI_eq (by omega) (by omega)]; exact z)]; exact Or.inr ⟨z, M, rfl, trivial⟩) (by
    intro _ _
    refine ⟨?_, trivial⟩
    unfold F_X7_ringSteps_s5
    dsimp only
    rw [if_pos (show (8 : Int32) < nI (8 + 1) from nI_lt (a := 8) (by omega) (by omega))]) 8 0 M rfl trivial
  unfold F_X7_ringSteps rgS
  split at e
  · rename_i z
    have e' : loop (fun z : Int32 × Int32 => F_X7_ringSteps_s5 62 24 (nI u) M z.1 z.2) (nI u, (1 : Int32)) = _ := e
    rw [e', ob_t, if_pos z]; rfl
  · rename_i z
    have e' : loop (fun z : Int32 × Int32 => F_X7_ringSteps_s5 62 24 (nI u) M z.1 z.2) (nI u, (1 : Int32)) = _ := e
    rw [e', ob_t, if_neg z]; rfl
theorem MZu.ringOf {l : Int32} {u : Nat} (m : MZu M g s) (hk : okL g s l) (hl : l ≠ 0) (hw : ∀ u, u < gN g → mI M 88 u = wtS g s l u) (hu : inl g s l u) : F_X9_ringOf 67 (nI u) M = some (rgS g s l u) := by
  have g1 := m.b.gp.1
  have g2 := m.b.gp.2.1
  obtain ⟨-, e, -⟩ := loop_f (step := fun z : Int32 × Int32 => F_X9_ringOf_s4 67 (nI u) M z.1 z.2) (fun i _ => (nI (nxN g s l u i), nI (i + 1))) (fun _ => .inl ()) (fun i _ => .inr (nI (i + 1))) (rgP g s l u) (fun _ _ => True) (fun _ => True) 8 (by
    intro i _ hi _
    have hv := nxN_in m.b.gp m.b.gd hk hl hu i
    obtain ⟨k, k1, k2, k3, k4, k5⟩ := nx_in m.b.gp m.b.gd hk hl hv.1
    have ev : nxN g s l u (i + 1) = nxS g s l (nxN g s l u i) := rfl
    have hq := k5.1
    have hu1 := hu.1
    unfold F_X9_ringOf_s4 rgP
    dsimp only
    rw [if_neg (show ¬ (8 : Int32) < nI (i + 1) from nI_nlt (b := i + 1) (a := 8) (by omega) (by omega)), Lp_67_41 m.lay, ob_t, Lp_67_48 m.lay, ob_t, La_88 m.lay (by have := hv.1; omega), ob_t, hw _ hv.1, k1, m.who k2, ob_t, k4, ev, nI_1]
    by_cases z : nxS g s l (nxN g s l u i) = u
    · rw [if_pos (by rw [z])]; exact Or.inl ⟨z, M, rfl, trivial⟩
    · rw [if_neg (by rw [nI_eq (by omega) (by omega)]; exact z)]; exact Or.inr ⟨z, M, rfl, trivial⟩) (by
    intro _ _
    refine ⟨?_, trivial⟩
    unfold F_X9_ringOf_s4
    dsimp only
    rw [if_pos (show (8 : Int32) < nI (8 + 1) from nI_lt (a := 8) (by omega) (by omega))]) 8 0 M rfl trivial
  unfold F_X9_ringOf rgS
  split at e
  · rename_i z
    have e' : loop (fun z : Int32 × Int32 => F_X9_ringOf_s4 67 (nI u) M z.1 z.2) (nI u, (1 : Int32)) = _ := e
    rw [e', ob_t, if_pos z]; rfl
  · rename_i z
    have e' : loop (fun z : Int32 × Int32 => F_X9_ringOf_s4 67 (nI u) M z.1 z.2) (nI u, (1 : Int32)) = _ := e
    rw [e', ob_t, if_neg z]; rfl
theorem CQ.wish {x l : Int32} (c : CQ M p g s) (hk : okL g s l) (hr : cRl g s x l) : ∃ M', F_X7_wish 62 p 24 x M = some M' ∧ QC M M' ∧ (∀ u, inl g s l u → mI M' 65 u = wtS g s l u) ∧ mI M' 63 = mI M 63 ∧ mI M' 64 = mI M 64 := by
  have g2 := c.gp.2.1
  obtain ⟨M1, e1, w1, h1, h2, h3⟩ := loop_mm (step := fun z : Int32 × Mem => F_X7_wish_s3 62 p 24 x z.1 z.2) (fun i M' => (nI i, M')) (fun M' => M') (gN g) (fun i M' => QC M M' ∧ (∀ u, u < i → inl g s l u → mI M' 65 u = wtS g s l u) ∧ mI M' 63 = mI M 63 ∧ mI M' 64 = mI M 64) (M := M) ⟨QC.rfl', fun u z => by omega, rfl, rfl⟩ (by
    rintro i M' hi ⟨w', h', a1, a2⟩
    have c' := c.c w'
    refine ⟨stI M' 65 i (if bitI x i = true then wtS g s l i else -1), ?_, w'.st (by decide), fun u hu hin => ?_, by rw [mI_stne (by omega)]; exact a1, by rw [mI_stne (by omega)]; exact a2⟩
    · unfold F_X7_wish_s3
      dsimp only
      rw [c'.nN, ob_t, if_neg (nI_ge hi (show gN g < 2 ^ 31 by omega)), Lp_62_2 c'.1, ob_t, c'.wanted hk hr hi, ob_t, Lw_65 c'.1 (by omega), ob_t, Lw_65 c'.1 (by omega), ob_t, nI_1]
      by_cases b : bitI x i = true
      · rw [if_pos (shr1 (by omega) b), if_pos b]
      · rw [shB0 (by omega) b, if_neg (by decide), if_neg b]
    · rw [mI_steq]
      by_cases z : u = i
      · subst z; rw [upg_eq, if_pos ((hr u).mpr hin)]
      · rw [upg_ne z]; exact h' u (by omega) hin) (by
    rintro M' ⟨w', -⟩
    unfold F_X7_wish_s3
    dsimp only
    rw [(c.c w').nN, ob_t, if_pos (nI_le (Nat.le_refl (gN g)) (show gN g < 2 ^ 31 by omega))])
  refine ⟨M1, ?_, w1, fun u hu => h1 u hu.1 hu, h2, h3⟩
  unfold F_X7_wish
  have e1' : loop (fun z : Int32 × Mem => F_X7_wish_s3 62 p 24 x z.1 z.2) ((0 : Int32), M) = _ := e1
  rw [e1', ob_t]
-- what is closed, by the people
def clC (g : Pg) (s : Sg) (l : Int32) (u : Nat) : Prop := inl g s l u ∧ rgS g s l u ≠ 0
noncomputable def clP (g : Pg) (s : Sg) (l : Int32) : Nat → Int32 := itN (fun u a => by classical exact if clC g s l u then a ||| one u else a) 0
theorem clP_y {l : Int32} {i : Nat} (z : clC g s l i) : clP g s l (i + 1) = clP g s l i ||| one i := if_pos z
theorem clP_n {l : Int32} {i : Nat} (z : ¬ clC g s l i) : clP g s l (i + 1) = clP g s l i := if_neg z
theorem clP_bit {l : Int32} (hg : GdP g) (k : Nat) : bitI (clP g s l (gN g)) k = true ↔ k < gN g ∧ clC g s l k := by
  have g2 := hg.2.1
  exact bits_row (P := clC g s l) (by omega) (fun i a _ z => if_pos z) (fun i a _ z => if_neg z) k
theorem rgS_pos {l : Int32} {u : Nat} : rgS g s l u ≤ 0 ↔ rgS g s l u = 0 := by
  have := (fsN_le (P := rgP g s l u) 8 0).2
  unfold rgS
  split
  · rw [ti_le, ti_eq, nI_toInt (by omega), ti_0]; omega
  · exact ⟨fun _ => rfl, fun _ => by decide⟩
theorem CQ.close {x l : Int32} {G R : Nat → Int32} (c : CQ M p g s) (hk : okL g s l) (hl : l ≠ 0) (hr : cRl g s x l) (hw : ∀ u, inl g s l u → mI M 65 u = wtS g s l u) (hG : ∀ u, u < gN g → mI M 63 u = G u) (hR : ∀ u, u < gN g → mI M 64 u = R u) : ∃ M', F_X7_closeRings 62 p 24 x M = some (clP g s l (gN g), M') ∧ QC M M' ∧ (∀ u, u < gN g → mI M' 63 u = upT g s l (inl g s l) (wtS g s l) G u) ∧ ∀ u, u < gN g → mI M' 64 u = upT g s l (inl g s l) (rgS g s l) R u := by
  have g2 := c.gp.2.1
  obtain ⟨M1, e1, w1, h1, h2, h3⟩ := loop_mm (step := fun z : Int32 × Int32 × Mem => F_X7_closeRings_s6 62 p 24 x z.1 z.2.1 z.2.2) (fun i M' => (clP g s l i, nI i, M')) (fun M' => (clP g s l (gN g), M')) (gN g) (fun i M' => QC M M' ∧ mI M' 65 = mI M 65 ∧ (∀ u, u < gN g → mI M' 63 u = upT g s l (fun u => u < i ∧ inl g s l u) (wtS g s l) G u) ∧ ∀ u, u < gN g → mI M' 64 u = upT g s l (fun u => u < i ∧ inl g s l u) (rgS g s l) R u) (M := M) ⟨QC.rfl', rfl, fun u hu => by rw [upT_n (fun z => by have := z.1.1; omega)]; exact hG u hu, fun u hu => by rw [upT_n (fun z => by have := z.1.1; omega)]; exact hR u hu⟩ (by
    rintro i M' hi ⟨w', a0, a1, a2⟩
    have c' := c.c w'
    have up : ∀ (v Z : Nat → Int32) u, (u ≠ i ∨ ¬ clC g s l i) → upT g s l (fun u => u < i + 1 ∧ inl g s l u) v Z u = upT g s l (fun u => u < i ∧ inl g s l u) v Z u := fun v Z u z => by
      by_cases y : u = i
      · subst y
        have z := z.resolve_left (fun q => q rfl)
        rw [upT_n (fun q => z ⟨q.1.2, q.2⟩), upT_n (fun q => z ⟨q.1.2, q.2⟩)]
      · exact upT_c ⟨fun q => ⟨by have := q.1; omega, q.2⟩, fun q => ⟨by have := q.1; omega, q.2⟩⟩
    have no : ¬ clC g s l i → QC M M' ∧ mI M' 65 = mI M 65 ∧ (∀ u, u < gN g → mI M' 63 u = upT g s l (fun u => u < i + 1 ∧ inl g s l u) (wtS g s l) G u) ∧ ∀ u, u < gN g → mI M' 64 u = upT g s l (fun u => u < i + 1 ∧ inl g s l u) (rgS g s l) R u := fun z => ⟨w', a0, fun u hu => by rw [up _ _ u (Or.inr z)]; exact a1 u hu, fun u hu => by rw [up _ _ u (Or.inr z)]; exact a2 u hu⟩
    unfold F_X7_closeRings_s6
    dsimp only
    rw [c'.nN, ob_t, if_neg (nI_ge hi (show gN g < 2 ^ 31 by omega))]
    by_cases b : bitI x i = true
    · have hin := (hr i).mp b
      rw [if_pos (shr1 (by omega) b), Lc_62 c'.1, c'.ringSteps hk hl (fun u hu => by rw [a0]; exact hw u hu) hin, ob_t]
      unfold F_X7_closeRings_j36_6
      by_cases r : rgS g s l i = 0
      · have z : ¬ clC g s l i := fun q => q.2 r
        rw [if_pos (rgS_pos.mpr r), nI_1]
        exact ⟨M', by rw [clP_n z], no z⟩
      · have z : clC g s l i := ⟨hin, r⟩
        refine ⟨stI (stI M' 63 i (wtS g s l i)) 64 i (rgS g s l i), ?_, (w'.st (by decide)).st (by decide), by rw [mI_stne (by omega), mI_stne (by omega)]; exact a0, fun u hu => ?_, fun u hu => ?_⟩
        · rw [if_neg (fun q => r (rgS_pos.mp q)), Lp_62_0 c'.1, ob_t, Lp_62_2 c'.1, ob_t, La_65 c'.1 (by omega), ob_t, a0, hw i hin, Lw_63 c'.1 (by omega), ob_t, Lp_62_1 (M := stI M' 63 i _) c'.1, ob_t, Lw_64 (M := stI M' 63 i _) c'.1 (by omega), ob_t, nm_t, nI_1, clP_y z]
          rfl
        · rw [mI_stne (by omega), mI_steq]
          by_cases y : u = i
          · subst y; rw [upg_eq, upT_y ⟨⟨by omega, hin⟩, r⟩]
          · rw [upg_ne y, up _ _ u (Or.inl y)]; exact a1 u hu
        · rw [mI_steq]
          by_cases y : u = i
          · subst y; rw [upg_eq, upT_y ⟨⟨by omega, hin⟩, r⟩]
          · rw [upg_ne y, mI_stne (by omega), up _ _ u (Or.inl y)]; exact a2 u hu
    · have z : ¬ clC g s l i := fun q => b ((hr i).mpr q.1)
      rw [shB0 (by omega) b, if_neg (by decide)]
      unfold F_X7_closeRings_j36_6
      rw [if_pos (by decide), nI_1]
      exact ⟨M', by rw [clP_n z], no z⟩) (by
    rintro M' ⟨w', -⟩
    unfold F_X7_closeRings_s6
    dsimp only
    rw [(c.c w').nN, ob_t, if_pos (nI_le (Nat.le_refl (gN g)) (show gN g < 2 ^ 31 by omega))])
  refine ⟨M1, ?_, w1, fun u hu => ?_, fun u hu => ?_⟩
  · unfold F_X7_closeRings
    have e1' : loop (fun z : Int32 × Int32 × Mem => F_X7_closeRings_s6 62 p 24 x z.1 z.2.1 z.2.2) ((0 : Int32), (0 : Int32), M) = _ := e1
    rw [e1', ob_t, u2_t]
  · rw [h2 u hu]; exact upT_c ⟨fun q => q.2, fun q => ⟨hu, q⟩⟩
  · rw [h3 u hu]; exact upT_c ⟨fun q => q.2, fun q => ⟨hu, q⟩⟩
theorem cR_s {x l : Int32} {G R : Nat → Int32} (hg : GdP g) (hk : okL g s l) (hr : cRl g s x l) : cRl g s (x &&& (clP g s l (gN g) ^^^ -1)) (trF g s (l, G, R)).1 := fun u => by
  have g2 := hg.2.1
  rw [tr_inl hg hk, bit_and, Bool.and_eq_true]
  by_cases h32 : u < 32
  · rw [bit_not h32]
    constructor
    · rintro ⟨a, b⟩
      refine ⟨(hr u).mp a, Classical.byContradiction fun z => ?_⟩
      rw [(clP_bit hg u).mpr ⟨((hr u).mp a).1, (hr u).mp a, z⟩] at b; cases b
    · rintro ⟨a, b⟩
      refine ⟨(hr u).mpr a, ?_⟩
      cases e : bitI (clP g s l (gN g)) u
      · rfl
      · exact absurd b ((clP_bit hg u).mp e).2.2
  · constructor
    · rintro ⟨a, -⟩; rw [bit_big (by omega)] at a; cases a
    · rintro ⟨⟨a, -⟩, -⟩; omega
theorem CQ.solveT (c : CQ M p g s) : ∃ M', F_X7_solve 62 p 24 M = some M' ∧ QC M M' ∧ (∀ u, u < gN g → mI M' 63 u = (trN g s 8).2.1 u) ∧ ∀ u, u < gN g → mI M' 64 u = (trN g s 8).2.2 u := by
  have g1 := c.gp.1
  have g2 := c.gp.2.1
  obtain ⟨fa, f1, f2⟩ := F_fill (M := M) (a := 63) (n := 8) (v := -1) (c.1.t rfl) (by omega)
  have wa : QC M (stR M 63 fa) := QC.rfl'.stR (by decide)
  have ca := c.c wa
  obtain ⟨fb, f3, f4⟩ := F_fill (M := stR M 63 fa) (a := 64) (n := 8) (v := 0) (ca.1.t rfl) (by omega)
  have wb : QC M (stR (stR M 63 fa) 64 fb) := wa.stR (by decide)
  have cb := c.c wb
  obtain ⟨Mb, eb⟩ : ∃ Mb, Mb = stR (stR M 63 fa) 64 fb := ⟨_, rfl⟩
  have b63 : ∀ u, u < gN g → mI Mb 63 u = -1 := fun u hu => by rw [eb, mI_stRne (by omega), mI_stReq]; exact f2 u (by omega)
  have b64 : ∀ u, u < gN g → mI Mb 64 u = 0 := fun u hu => by rw [eb, mI_stReq]; exact f4 u (by omega)
  rw [← eb] at wb cb f3
  have el := loop_p (step := fun z : Int32 × Int32 => F_X7_solve_s21 p 24 Mb z.1 z.2) (fun i a => (a, nI i)) (fun k a => if wheS g s k = -1 then a else a ||| one k) 0 (gN g) (r := itN (fun k a => if wheS g s k = -1 then a else a ||| one k) 0 (gN g)) (by
    intro i hi
    unfold F_X7_solve_s21
    dsimp only
    rw [cb.nN, ob_t, if_neg (nI_ge hi (show gN g < 2 ^ 31 by omega)), Lp_24_7 cb.1, ob_t, cb.whe hi, ob_t, nm_t, nI_1]
    split <;> rfl) (by
    unfold F_X7_solve_s21
    dsimp only
    rw [cb.nN, ob_t, if_pos (nI_le (Nat.le_refl (gN g)) (show gN g < 2 ^ 31 by omega))])
  have r0 : cRl g s (itN (fun k a => if wheS g s k = -1 then a else a ||| one k) 0 (gN g)) (usS g s) := fun u => by
    rw [bits_row (P := fun k => wheS g s k ≠ -1) (f := fun k a => if wheS g s k = -1 then a else a ||| one k) (by omega) (fun i a _ h => if_neg h) (fun i a _ h => if_pos (Classical.not_not.mp h)) u]
    constructor
    · rintro ⟨hu, hw⟩
      rcases whe_case (u := u) c.gp c.gd with ⟨z, -⟩ | ⟨j, hj, z1, z2⟩
      · exact absurd z hw
      · exact ⟨hu, j, (us_bit c.gp j).mpr ⟨hj, by rw [z2]; exact nI_nm1 (by omega)⟩, z2⟩
    · rintro ⟨hu, h, b, e⟩
      refine ⟨hu, fun z => ?_⟩
      exact whe_none z c.gp h ((us_bit c.gp h).mp b).1 e
  generalize itN (fun k a => if wheS g s k = -1 then a else a ||| one k) 0 (gN g) = x0 at el r0
  obtain ⟨M2, e2, w2, h2, h3⟩ := loop_ex (step := fun z : Int32 × Int32 × Mem => F_X7_solve_s57 62 p 24 z.1 z.2.1 z.2.2) (fun i z => z.2.1 = nI i ∧ cRl g s z.1 (trN g s i).1 ∧ QC M z.2.2 ∧ (∀ u, u < gN g → mI z.2.2 63 u = (trN g s i).2.1 u) ∧ ∀ u, u < gN g → mI z.2.2 64 u = (trN g s i).2.2 u) (fun M' => QC M M' ∧ (∀ u, u < gN g → mI M' 63 u = (trN g s 8).2.1 u) ∧ ∀ u, u < gN g → mI M' 64 u = (trN g s 8).2.2 u) 8 (by
    rintro i ⟨x, k, M'⟩ hi ⟨hk, hr, w', a1, a2⟩
    dsimp only at hk hr w' a1 a2
    subst hk
    have c' := c.c w'
    have ok := trN_ok (s := s) c.gp i
    unfold F_X7_solve_s57
    dsimp only
    by_cases i8 : i = 8
    · subst i8
      left
      rw [if_pos (show (8 : Int32) ≤ nI 8 from nI_le (a := 8) (by omega) (by omega))]
      exact ⟨M', rfl, w', a1, a2⟩
    · rw [if_neg (show ¬ (8 : Int32) ≤ nI i from nI_ge (b := 8) (by omega) (by omega))]
      by_cases x0 : x = 0
      · left
        rw [if_pos x0]
        have e := trN_st ((cR_0 c.gd ok hr).mp x0) (8 - i)
        rw [show i + (8 - i) = 8 by omega] at e
        rw [e]
        exact ⟨M', rfl, w', a1, a2⟩
      · right
        have hl : (trN g s i).1 ≠ 0 := fun z => x0 ((cR_0 c.gd ok hr).mpr z)
        obtain ⟨M3, e3, w3, b1, b2, b3⟩ := c'.wish ok hr
        have c3 := c'.c w3
        obtain ⟨M4, e4, w4, d1, d2⟩ := c3.close (G := (trN g s i).2.1) (R := (trN g s i).2.2) ok hl hr b1 (fun u hu => by rw [b2]; exact a1 u hu) (fun u hu => by rw [b3]; exact a2 u hu)
        rw [if_neg x0, Lc_62 c'.1, e3, ob_t, Lc_62 c3.1, e4, bd2_t, nm_t, nI_1]
        exact ⟨by omega, _, rfl, rfl, cR_s c.gp ok hr, (w'.trans w3).trans w4, d1, d2⟩) (s := (x0, (0 : Int32), Mb)) ⟨rfl, r0, wb, b63, b64⟩
  refine ⟨M2, ?_, w2, h2, h3⟩
  unfold F_X7_solve
  have el' : loop (fun z : Int32 × Int32 => F_X7_solve_s21 p 24 Mb z.1 z.2) ((0 : Int32), (0 : Int32)) = some x0 := el
  rw [Lp_62_0 c.1, ob_t, f1, ob_t, Lp_62_1 ca.1, ob_t, f3, ob_t, el', ob_t, e2, ob_t]
end
