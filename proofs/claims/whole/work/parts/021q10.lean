section
variable {M : Mem} {p : Nat} {g : Pg} {s : Sg}

/-! ===== the last that stays ===== -/
-- in how many days, 41 if never
noncomputable def fbN (g : Pg) (s : Sg) (h : Nat) : Nat := fsN (bP g s h) (41 - 0) 0
noncomputable def fvN (g : Pg) (s : Sg) (h : Nat) : Nat := if fbN g s h < 41 then fbN g s h else 99999
def occ (g : Pg) (s : Sg) (h : Nat) : Prop := h < gH g ∧ sWho s h ≠ -1
theorem fb_le {h : Nat} : fbN g s h ≤ 41 := by have := (fsN_le (P := bP g s h) (41 - 0) 0).2; unfold fbN; omega
theorem fb_pos {h : Nat} {D : Int} (hd : GdS D g s) (ho : occ g s h) : 0 < fbN g s h := by
  have z := hd.2.2.2.2.2.1 h ho.1 ho.2
  by_cases c : fbN g s h = 0
  · have : bP g s h (fbN g s h) := fsN_at (P := bP g s h) (41 - 0) 0 (by have : fsN (bP g s h) (41 - 0) 0 = 0 := c; omega)
    rw [c] at this
    unfold bP at this
    rw [show passN g 0 s = s from rfl, z] at this
    cases this
  · omega
theorem fb_at {h i : Nat} (hi : i < fbN g s h) (h4 : i + 1 ≤ 40) : bitI (sBur (passN g (i + 1) s)) h = true ↔ fbN g s h = i + 1 := by
  constructor
  · intro z
    by_cases c : fbN g s h = i + 1
    · exact c
    · exact absurd z (fsN_lt (P := bP g s h) (41 - 0) 0 (i + 1) (by omega) (by show i + 1 < fbN g s h; omega))
  · intro z
    have : bP g s h (fbN g s h) := fsN_at (P := bP g s h) (41 - 0) 0 (by have : fsN (bP g s h) (41 - 0) 0 = i + 1 := z; omega)
    rw [z] at this; exact this
def laF (g : Pg) (s : Sg) (i : Nat) (a : Int32 × Int32 × Int32) : Int32 × Int32 × Int32 :=
  if a.1 &&& sBur (passN g (i + 1) s) = 0 then a else (a.1 &&& ((a.1 &&& sBur (passN g (i + 1) s)) ^^^ -1), a.1 &&& sBur (passN g (i + 1) s), nI (i + 1))
def laI (g : Pg) (s : Sg) (i : Nat) (a : Int32 × Int32 × Int32) : Prop :=
  (∀ h, bitI a.1 h = true ↔ occ g s h ∧ i < fbN g s h) ∧ ((a.2.1 = 0 ∧ a.2.2 = -1 ∧ ∀ h, occ g s h → i < fbN g s h) ∨ ∃ d, 1 ≤ d ∧ d ≤ i ∧ a.2.2 = nI d ∧ (∀ h, bitI a.2.1 h = true ↔ occ g s h ∧ fbN g s h = d) ∧ (∃ h, bitI a.2.1 h = true) ∧ ∀ h, occ g s h → fbN g s h ≤ i → fbN g s h ≤ d)
theorem bit_n0 {a : Int32} (h : a ≠ 0) : ∃ k, bitI a k = true := by
  refine Classical.byContradiction fun z => h (bit_eqT fun k => ⟨fun y => absurd ⟨k, y⟩ z, fun y => ?_⟩)
  rw [bit_0] at y; cases y
theorem laI_0 {D : Int} (hg : GdP g) (hd : GdS D g s) : laI g s 0 (usS g s, 0, -1) :=
  ⟨fun h => (us_bit hg h).trans ⟨fun z => ⟨z, fb_pos hd z⟩, fun z => z.1⟩, Or.inl ⟨rfl, rfl, fun h z => fb_pos hd z⟩⟩
theorem laI_s {i : Nat} {a : Int32 × Int32 × Int32} (h4 : i + 1 ≤ 40) (z : laI g s i a) : laI g s (i + 1) (laF g s i a) := by
  obtain ⟨z1, z2⟩ := z
  have zb : ∀ h, bitI (a.1 &&& sBur (passN g (i + 1) s)) h = true ↔ occ g s h ∧ fbN g s h = i + 1 := fun h => by
    rw [bit_and, Bool.and_eq_true, z1 h]
    constructor
    · rintro ⟨⟨y1, y2⟩, y3⟩; exact ⟨y1, (fb_at y2 h4).mp y3⟩
    · rintro ⟨y1, y2⟩; exact ⟨⟨y1, by omega⟩, (fb_at (by omega) h4).mpr y2⟩
  unfold laF
  by_cases c : a.1 &&& sBur (passN g (i + 1) s) = 0
  · rw [if_pos c]
    have nb : ∀ h, occ g s h → fbN g s h ≠ i + 1 := fun h y1 y2 => by have := (zb h).mpr ⟨y1, y2⟩; rw [c, bit_0] at this; cases this
    refine ⟨fun h => (z1 h).trans ⟨fun y => ⟨y.1, by have := nb h y.1; omega⟩, fun y => ⟨y.1, by omega⟩⟩, ?_⟩
    rcases z2 with ⟨y1, y2, y3⟩ | ⟨d, d1, d2, d3, d4, d5, d6⟩
    · exact Or.inl ⟨y1, y2, fun h y => by have := nb h y; have := y3 h y; omega⟩
    · exact Or.inr ⟨d, d1, by omega, d3, d4, d5, fun h y1 y2 => d6 h y1 (by have := nb h y1; omega)⟩
  · rw [if_neg c]
    refine ⟨fun h => ?_, Or.inr ⟨i + 1, by omega, by omega, rfl, zb, bit_n0 c, fun h y1 y2 => y2⟩⟩
    dsimp only
    rw [bit_and, Bool.and_eq_true, z1 h]
    by_cases hh : h < 32
    · rw [bit_not hh]
      have zh := zb h
      constructor
      · rintro ⟨⟨y1, y2⟩, y3⟩
        refine ⟨y1, ?_⟩
        by_cases e : fbN g s h = i + 1
        · rw [zh.mpr ⟨y1, e⟩] at y3; cases y3
        · omega
      · rintro ⟨y1, y2⟩
        refine ⟨⟨y1, by omega⟩, ?_⟩
        cases e : bitI (a.1 &&& sBur (passN g (i + 1) s)) h
        · rfl
        · have := (zh.mp e).2; omega
    · have n1 : ¬ bitI a.1 h = true := by rw [bit_big (by omega)]; decide
      constructor
      · rintro ⟨y, -⟩; exact absurd ((z1 h).mpr y) n1
      · rintro ⟨y1, y2⟩; exact absurd ((z1 h).mpr ⟨y1, by omega⟩) n1
theorem laI_n {D : Int} (hg : GdP g) (hd : GdS D g s) : ∀ n, n ≤ 40 → laI g s n (itN (laF g s) (usS g s, 0, -1) n) := by
  intro n
  induction n with
  | zero => intro _; exact laI_0 hg hd
  | succ n ih => intro hn; exact laI_s hn (ih (by omega))
noncomputable def lmF (g : Pg) (s : Sg) (h : Nat) (a : Int32 × Int32) : Int32 × Int32 := if sWho s h = -1 then a else if a.2 < nI (fvN g s h) then (nI h, nI (fvN g s h)) else a
theorem fv_le {h : Nat} : fvN g s h ≤ 99999 := by unfold fvN; split <;> omega
theorem lm_n (hg : GdP g) : ∀ n, n ≤ gH g → (itN (lmF g s) (-1, -1) n = (-1, -1) ∧ ∀ h, h < n → ¬ occ g s h) ∨ ∃ k, k < n ∧ occ g s k ∧ itN (lmF g s) (-1, -1) n = (nI k, nI (fvN g s k)) ∧ (∀ h, h < n → occ g s h → fvN g s h ≤ fvN g s k) ∧ ∀ h, h < k → occ g s h → fvN g s h < fvN g s k := by
  intro n
  induction n with
  | zero => intro _; exact Or.inl ⟨rfl, fun h z => by omega⟩
  | succ n ih =>
    intro hn
    show (lmF g s n (itN (lmF g s) (-1, -1) n) = _ ∧ _) ∨ ∃ k, k < n + 1 ∧ occ g s k ∧ lmF g s n (itN (lmF g s) (-1, -1) n) = _ ∧ _
    have v9 := fv_le (g := g) (s := s) (h := n)
    rcases ih (by omega) with ⟨e1, e2⟩ | ⟨k, k1, k2, k3, k4, k5⟩
    · rw [e1]
      unfold lmF
      by_cases c : sWho s n = -1
      · rw [if_pos c]
        refine Or.inl ⟨rfl, fun h z y => ?_⟩
        by_cases e : h = n
        · subst e; exact y.2 c
        · exact e2 h (by omega) y
      · rw [if_neg c]
        dsimp only
        rw [if_pos (show (-1 : Int32) < nI (fvN g s n) from by rw [ti_lt, nI_toInt (by omega)]; have : (-1 : Int32).toInt = -1 := rfl; omega)]
        refine Or.inr ⟨n, by omega, ⟨by omega, c⟩, rfl, fun h z y => ?_, fun h z y => absurd y (e2 h z)⟩
        by_cases e : h = n
        · subst e; exact Nat.le_refl _
        · exact absurd y (e2 h (by omega))
    · rw [k3]
      unfold lmF
      have v8 := fv_le (g := g) (s := s) (h := k)
      by_cases c : sWho s n = -1
      · rw [if_pos c]
        refine Or.inr ⟨k, by omega, k2, rfl, fun h z y => ?_, k5⟩
        by_cases e : h = n
        · subst e; exact absurd c y.2
        · exact k4 h (by omega) y
      · rw [if_neg c]
        dsimp only
        by_cases d : fvN g s k < fvN g s n
        · rw [if_pos (nI_lt d (by omega))]
          refine Or.inr ⟨n, by omega, ⟨by omega, c⟩, rfl, fun h z y => ?_, fun h z y => by have := k4 h z y; omega⟩
          by_cases e : h = n
          · subst e; exact Nat.le_refl _
          · have := k4 h (by omega) y; omega
        · rw [if_neg (nI_nlt (by omega) (by omega))]
          refine Or.inr ⟨k, by omega, k2, rfl, fun h z y => ?_, k5⟩
          by_cases e : h = n
          · subst e; omega
          · exact k4 h (by omega) y
theorem least_b {x : Int32} {k : Nat} (hk : k < 8) (h1 : bitI x k = true) (h2 : ∀ h, h < k → bitI x h = false) : F_X8_leastBit x M = some (nI k) := by
  unfold F_X8_leastBit
  have e := loop_run (step := fun z => F_X8_leastBit_s2 x M z) (fun i => nI i) k (r := .inr (nI k)) (fun i hi => by
    unfold F_X8_leastBit_s2
    rw [if_neg (show ¬ (8 : Int32) ≤ nI i from nI_ge (b := 8) (by omega) (by omega)), bit_shr (by omega), h2 i hi, if_neg (by decide), nI_1]) (by
    unfold F_X8_leastBit_s2
    rw [if_neg (show ¬ (8 : Int32) ≤ nI k from nI_ge (b := 8) (by omega) (by omega)), bit_shr (by omega), h1, if_pos (by decide)])
  exact (congrArg (fun o => Option.bind o _) e).trans rfl
theorem least_n {x : Int32} (h2 : ∀ h, h < 8 → bitI x h = false) : F_X8_leastBit x M = some (-1) := by
  unfold F_X8_leastBit
  have e := loop_run (step := fun z => F_X8_leastBit_s2 x M z) (fun i => nI i) 8 (r := .inl ()) (fun i hi => by
    unfold F_X8_leastBit_s2
    rw [if_neg (show ¬ (8 : Int32) ≤ nI i from nI_ge (b := 8) (by omega) (by omega)), bit_shr (by omega), h2 i hi, if_neg (by decide), nI_1]) (by
    unfold F_X8_leastBit_s2
    rw [if_pos (show (8 : Int32) ≤ nI 8 from nI_le (a := 8) (by omega) (by omega))])
  exact (congrArg (fun o => Option.bind o _) e).trans rfl
/-- both by the same -/
theorem la_eq {D : Int} (hg : GdP g) (hd : GdS D g s) {w l y : Int32} (e : itN (laF g s) (usS g s, 0, -1) 40 = (w, l, y)) : (w = 0 → F_X8_leastBit l M = some (itN (lmF g s) (-1, -1) (gH g)).1 ∧ (itN (lmF g s) (-1, -1) (gH g)).2 ≠ 99999 ∧ (itN (lmF g s) (-1, -1) (gH g)).2 = y) ∧ (w ≠ 0 → F_X8_leastBit w M = some (itN (lmF g s) (-1, -1) (gH g)).1 ∧ (itN (lmF g s) (-1, -1) (gH g)).2 = 99999) := by
  have g1 := hg.1
  have a := laI_n hg hd 40 (Nat.le_refl _)
  rw [e] at a
  obtain ⟨a1, a2⟩ := a
  dsimp only at a1 a2
  have w0 : w ≠ 0 → ∃ h, occ g s h ∧ fbN g s h = 41 := fun z => by
    obtain ⟨k, hk⟩ := bit_n0 z
    have := (a1 k).mp hk
    exact ⟨k, this.1, by have := fb_le (g := g) (s := s) (h := k); omega⟩
  have fv1 : ∀ h, fbN g s h = 41 → fvN g s h = 99999 := fun h z => by unfold fvN; rw [if_neg (by omega)]
  have fv2 : ∀ h, fbN g s h ≠ 41 → fvN g s h = fbN g s h := fun h z => by unfold fvN; rw [if_pos (by have := fb_le (g := g) (s := s) (h := h); omega)]
  rcases lm_n (s := s) hg (gH g) (Nat.le_refl _) with ⟨e1, e2⟩ | ⟨k, k1, k2, k3, k4, k5⟩
  · rw [e1]
    refine ⟨fun z => ?_, fun z => ?_⟩
    · rcases a2 with ⟨y1, y2, -⟩ | ⟨d, -, -, -, d4, ⟨h, d5⟩, -⟩
      · exact ⟨least_n fun h _ => by rw [y1]; exact bit_0, by decide, y2.symm⟩
      · have := ((d4 h).mp d5).1
        exact absurd this (e2 h this.1)
    · obtain ⟨h, h1, -⟩ := w0 z
      exact absurd h1 (e2 h h1.1)
  · rw [k3]
    dsimp only
    by_cases c : fbN g s k = 41
    · have wk : bitI w k = true := (a1 k).mpr ⟨k2, by omega⟩
      have nw : w ≠ 0 := fun z => by rw [z, bit_0] at wk; cases wk
      refine ⟨fun z => absurd z nw, fun _ => ⟨least_b (by omega) wk fun h hh => ?_, by rw [fv1 k c]; rfl⟩⟩
      cases q : bitI w h
      · rfl
      · have := (a1 h).mp q
        have h5 := k5 h hh this.1
        have := fb_le (g := g) (s := s) (h := h)
        rw [fv1 k c, fv1 h (by omega)] at h5
        omega
    · have all : ∀ h, occ g s h → fbN g s h ≤ fbN g s k ∧ fbN g s h ≠ 41 := fun h z => by
        have h4 := k4 h z.1 z
        have := fb_le (g := g) (s := s) (h := k)
        rw [fv2 k c] at h4
        by_cases q : fbN g s h = 41
        · rw [fv1 h q] at h4; omega
        · rw [fv2 h q] at h4; exact ⟨h4, q⟩
      have bk := fb_le (g := g) (s := s) (h := k)
      refine ⟨fun _ => ?_, fun z => by obtain ⟨h, h1, h2⟩ := w0 z; exact absurd h2 (all h h1).2⟩
      rcases a2 with ⟨y1, y2, y3⟩ | ⟨d, d1, d2, d3, d4, ⟨h, d5⟩, d6⟩
      · have := y3 k k2; omega
      · have dk : d = fbN g s k := by
          have b1 := (d4 h).mp d5
          have := (all h b1.1).1
          have := d6 k k2 (by omega)
          omega
        refine ⟨least_b (by omega) ((d4 k).mpr ⟨k2, dk.symm⟩) fun j hj => ?_, ?_, ?_⟩
        · cases q : bitI l j
          · rfl
          · have b1 := (d4 j).mp q
            have h5 := k5 j hj b1.1
            rw [fv2 k c, fv2 j (all j b1.1).2] at h5
            omega
        · rw [fv2 k c]; exact fun q => by have : fbN g s k = 99999 := (nI_eq (b := 99999) (by omega) (by omega)).mp q; omega
        · rw [fv2 k c, d3, dk]
theorem CQ.lastL (c : CQ M p g s) : ∃ M1 M', F_X6_copy 31 24 M = some M1 ∧ loop (fun z : Int32 × Int32 × Int32 × Int32 × Mem => F_X8_last_s29 0 z.1 z.2.1 z.2.2.1 z.2.2.2.1 z.2.2.2.2) (usS g s, (0 : Int32), (-1 : Int32), (1 : Int32), M1) = some ((itN (laF g s) (usS g s, 0, -1) 40).1, (itN (laF g s) (usS g s, 0, -1) 40).2.1, (itN (laF g s) (usS g s, 0, -1) 40).2.2, M') ∧ QC M M' := by
  obtain ⟨M1, e1, c1, w1⟩ := c.copyL
  obtain ⟨M2, e2, -, w2⟩ := loop_q (step := fun z : Int32 × Int32 × Int32 × Int32 × Mem => F_X8_last_s29 0 z.1 z.2.1 z.2.2.1 z.2.2.2.1 z.2.2.2.2) (fun i a M' => (a.1, a.2.1, a.2.2, nI (i + 1), M')) (fun a M' => (a.1, a.2.1, a.2.2, M')) (laF g s) (usS g s, (0 : Int32), (-1 : Int32)) 40 (fun i M' => CLa M' p g s (passN g i s) (999 + i) ∧ QC M M') (M := M1) ⟨⟨c1.1, c1.2.1, c1.2.2.mono (by omega)⟩, w1⟩ (by
    rintro i M' hi ⟨c', w'⟩
    obtain ⟨M3, e3, c3, w3⟩ := c'.pass1 (by omega)
    generalize itN (laF g s) (usS g s, (0 : Int32), (-1 : Int32)) i = a
    refine ⟨M3, ?_, ⟨c3.1, c3.2.1, c3.2.2.mono (by omega)⟩, w'.trans w3⟩
    have hb : gI M3 6 31 2 = some (sBur (passN g (i + 1) s)) := c3.bur
    unfold F_X8_last_s29 laF
    dsimp only
    rw [if_neg (show ¬ (40 : Int32) < nI (i + 1) from nI_nlt (b := i + 1) (a := 40) (by omega) (by omega)), Lp_0_5 c'.1.1, ob_t, Lc_0 c'.1.1, e3, ob_t, Lp_0_5 c3.1.1, ob_t, hb, ob_t, nI_1]
    split <;> rfl) (by
    rintro M' ⟨c', w'⟩
    unfold F_X8_last_s29
    dsimp only
    rw [if_pos (show (40 : Int32) < nI (40 + 1) from nI_lt (a := 40) (by omega) (by omega))])
  exact ⟨M1, M2, e1, e2, w2⟩
theorem MZu.lastL (m : MZu M g s) : ∃ M', loop (fun z : Int32 × Int32 × Int32 × Mem => F_X9_last_s23 67 z.1 z.2.1 z.2.2.1 z.2.2.2) ((-1 : Int32), (-1 : Int32), (0 : Int32), M) = some ((itN (lmF g s) (-1, -1) (gH g)).1, (itN (lmF g s) (-1, -1) (gH g)).2, M') ∧ MZu M' g s ∧ QW M M' := by
  have g1 := m.b.gp.1
  exact loop_q (step := fun z : Int32 × Int32 × Int32 × Mem => F_X9_last_s23 67 z.1 z.2.1 z.2.2.1 z.2.2.2) (fun i a M' => (a.1, a.2, nI i, M')) (fun a M' => (a.1, a.2, M')) (lmF g s) ((-1 : Int32), (-1 : Int32)) (gH g) (fun i M' => MZu M' g s ∧ QW M M') (M := M) ⟨m, QW.rfl'⟩ (by
    rintro i M' hi ⟨m', w'⟩
    obtain ⟨M3, e3, m3, w3⟩ := m'.bursts hi
    generalize itN (lmF g s) ((-1 : Int32), (-1 : Int32)) i = a
    have ev : (if fsN (bP g s i) (41 - 0) 0 < 41 then nI (fsN (bP g s i) (41 - 0) 0) else (99999 : Int32)) = nI (fvN g s i) := by
      unfold fvN fbN
      split <;> rfl
    rw [ev] at e3
    unfold F_X9_last_s23 lmF
    dsimp only
    rw [m'.b.nH, ob_t, if_neg (nI_ge hi (show gH g < 2 ^ 31 by omega)), Lp_67_41 m'.lay, ob_t, m'.who hi, ob_t, nI_1, Lc_67 m'.lay, e3, bd2_t]
    by_cases z : sWho s i = -1
    · rw [if_pos z, if_pos z]; exact ⟨M', rfl, m', w'⟩
    · rw [if_neg z, if_neg z]
      refine ⟨M3, ?_, m3, w'.trans w3⟩
      split <;> rfl) (by
    rintro M' ⟨m', w'⟩
    unfold F_X9_last_s23
    dsimp only
    rw [m'.b.nH, ob_t, if_pos (nI_le (Nat.le_refl (gH g)) (show gH g < 2 ^ 31 by omega))])
theorem P_last (c : CQ M p g s) (x1 : Int32) : PR 0 M g s (F_X8_last 0 x1 M) (F_X9_last 67 x1) := by
  have g1 := c.gp.1
  have g2 := c.gp.2.1
  rcases ncase x1 0 1 (by omega) (by omega) with ⟨a1, -, ha1, rfl⟩ | hx
  rotate_left 1
  · refine Or.inr (Or.inl ⟨by decide, ?_, fun M1 m => ?_⟩)
    · unfold CT F_X8_last
      have gx : F_X8_needWhat x1 (1 : Int32) M = _ := c.needW' (b := 1) hx
      simp only [Lc_0 c.1, bdV_l, bdV_r, gx]
    · obtain ⟨e0, m0, -⟩ := m.zero
      have mx : F_X9_isWhat 67 x1 (1 : Int32) _ = _ := m0.isW' (b := 1) hx
      refine MT.mk m (v := 0) ?_
      unfold F_X9_last
      simp only [e0, ob_t, Lc_67 m0.lay, bd2_t, ifn1, mx]
      rfl
  refine Or.inl ⟨if a1 = 0 then (itN (lmF g s) (-1, -1) (gH g)).1 else if (itN (lmF g s) (-1, -1) (gH g)).2 = 99999 then -1 else (itN (lmF g s) (-1, -1) (gH g)).2, ?_, fun M1 m => ?_⟩
  · unfold CR F_X8_last
    have gc1 : F_X8_needWhat (nI a1) (1 : Int32) M = _ := needW (b := 1) ha1 (by omega)
    simp only [Lc_0 c.1, bdV_l, ob_t, gc1]
    obtain ⟨M1, M2, e1, e2, w2⟩ := c.lastL
    refine ⟨M2, ?_, w2⟩
    rw [c.uses, ob_t, Lp_0_5 c.1, ob_t, Lp_0_4 c.1, ob_t, Lc_31 c.1, e1, ob_t, e2, ob_t, u4_t]
    obtain ⟨⟨w, l, y⟩, e⟩ : ∃ a, itN (laF g s) (usS g s, 0, -1) 40 = a := ⟨_, rfl⟩
    have q := la_eq (M := M2) c.gp c.gd e
    rw [e]
    dsimp only
    have : a1 = 0 ∨ a1 = 1 := by omega
    rcases this with rfl | rfl
    · rw [if_pos (show nI 0 = 0 from rfl), if_pos rfl]
      by_cases z : w = 0
      · rw [if_pos z, (q.1 z).1, ob_t]
      · rw [if_neg z, (q.2 z).1, ob_t]
    · rw [if_neg (show ¬ nI 1 = 0 by decide), if_neg (show ¬ 1 = 0 by omega)]
      by_cases z : w = 0
      · rw [if_pos z, if_neg (q.1 z).2.1, (q.1 z).2.2]
      · rw [if_neg z, if_pos (q.2 z).2]
  · obtain ⟨e0, m0, w0⟩ := m.zero
    have gm1 : F_X9_isWhat 67 (nI a1) (1 : Int32) _ = _ := m0.isW (b := 1) ha1 (by omega)
    unfold MR F_X9_last
    simp only [e0, ob_t, Lc_67 m0.lay, bd2_t, ifn1, gm1]
    generalize stI M1 67 0 0 = M0 at *
    obtain ⟨M2, e2, m2, w2⟩ := m0.lastL
    refine ⟨M2, ?_, w0.trans w2, m2⟩
    rw [e2, ob_t, u3_t]
    generalize itN (lmF g s) (-1, -1) (gH g) = r
    have : a1 = 0 ∨ a1 = 1 := by omega
    rcases this with rfl | rfl
    · rw [if_pos (show nI 0 = 0 from rfl), if_pos rfl]
    · rw [if_neg (show ¬ nI 1 = 0 by decide), if_neg (show ¬ 1 = 0 by omega)]
      split <;> rfl
end
