/-! ===== one house alone ===== -/
def LcS (g : Pg) (h : Nat) (a b : Sg) : Prop := sDay a = sDay b ∧ sWet a = sWet b ∧ bitI (sBur a) h = bitI (sBur b) h ∧ sSiz a h = sSiz b h ∧ sWor a h = sWor b h ∧ sWho a h = sWho b h ∧ ∀ u, u < gN g → sWho a h = nI u → sHee a u = sHee b u
section
variable {M M' : Mem} {p u h n : Nat} {g : Pg} {s s' a b : Sg} {D : Int} {d : Int32}
theorem LcS.refl : LcS g h s s := ⟨rfl, rfl, rfl, rfl, rfl, rfl, fun _ _ _ => rfl⟩
theorem LcS.damp (l : LcS g h a b) : dampS g a = dampS g b := by unfold dampS; rw [l.1, l.2.1]
theorem LcS.other (l : LcS g h a b) (hg : GdP g) (hd : GdS D g a) {k : Nat} (hk : k < gH g) (hh : h < gH g) (hne : k ≠ h) : LcS g h (wearS g a k d) b := by
  have g1 := hg.1
  obtain ⟨l1, l2, l3, l4, l5, l6, l7⟩ := l
  unfold wearS
  split
  · exact ⟨l1, l2, l3, l4, l5, l6, l7⟩
  · rename_i hw
    generalize (sWho a k).toNatClampNeg = q
    split
    · refine ⟨l1, l2, l3, l4, ?_, l6, l7⟩
      show upg (sWor a) k _ h = _
      rw [upg_ne (fun z => hne z.symm)]; exact l5
    · refine ⟨l1, l2, ?_, l4, ?_, ?_, ?_⟩
      · show bitI (sBur a ||| one k) h = _
        rw [bit_or1 (by omega), ← l3]
        rw [decide_eq_false (fun z : h = k => hne z.symm), Bool.or_false]
      · show upg (sWor a) k _ h = _
        rw [upg_ne (fun z => hne z.symm)]; exact l5
      · show upg (sWho a) k _ h = _
        rw [upg_ne (fun z => hne z.symm)]; exact l6
      · intro v hv e
        have e' : upg (sWho a) k (-1) h = nI v := e
        rw [upg_ne (fun z => hne z.symm)] at e'
        exact l7 v hv e'
theorem LcS.same (l : LcS g h a b) (hg : GdP g) (hd : GdS D g a) (hh : h < gH g) : LcS g h (wearS g a h d) (wearS g b h d) := by
  have g1 := hg.1
  have g2 := hg.2.1
  obtain ⟨l1, l2, l3, l4, l5, l6, l7⟩ := l
  unfold wearS
  by_cases hw : sWho a h = -1
  · rw [if_pos hw, if_pos (l6.symm.trans hw)]; exact ⟨l1, l2, l3, l4, l5, l6, l7⟩
  · obtain ⟨q, hq, e, -⟩ := hd.who hh hw
    have eb : sWho b h = nI q := l6.symm.trans e
    have el := l7 q hq e
    rw [if_neg hw, if_neg (fun z => hw (l6.trans z)), e, eb, nI_clamp (by omega)]
    have et : tightS a q h = tightS b q h := by unfold tightS; rw [el, l4]
    have e1 : upg (sWor a) h (mnI 99 (sWor a h + tightS b q h)) h = upg (sWor b) h (mnI 99 (sWor b h + tightS b q h)) h := by rw [upg_eq, upg_eq, l5]
    have ef : facS g (w1S a h q (tightS b q h)) q h d = facS g (w1S b h q (tightS b q h)) q h d := by
      funext k
      unfold facS
      have e3 : sWor (w1S a h q (tightS b q h)) h = sWor (w1S b h q (tightS b q h)) h := e1
      have e4 : tightS (w1S a h q (tightS b q h)) q h = tightS (w1S b h q (tightS b q h)) q h := et
      have e5 : sHee (w1S a h q (tightS b q h)) q = sHee (w1S b h q (tightS b q h)) q := el
      have e6 : sSiz (w1S a h q (tightS b q h)) h = sSiz (w1S b h q (tightS b q h)) h := l4
      have e7 : sDay (w1S a h q (tightS b q h)) = sDay (w1S b h q (tightS b q h)) := l1
      rw [e3, e4, e5, e6, e7]
    have ebr : brkS g (w1S a h q (tightS b q h)) q h d (tightS b q h) = brkS g (w1S b h q (tightS b q h)) q h d (tightS b q h) := by
      unfold brkS; rw [ef]
    rw [et, ebr]
    split
    · exact ⟨l1, l2, l3, l4, e1, l6, l7⟩
    · refine ⟨l1, l2, ?_, l4, e1, ?_, ?_⟩
      · show bitI (sBur a ||| one h) h = bitI (sBur b ||| one h) h
        rw [bit_or1 (by omega), bit_or1 (by omega)]; simp
      · show upg (sWho a) h (-1) h = upg (sWho b) h (-1) h
        rw [upg_eq, upg_eq]
      · intro v hv z
        have z' : upg (sWho a) h (-1) h = nI v := z
        rw [upg_eq] at z'
        exact absurd z'.symm (nI_nm1 (by omega))
theorem LcS.wears (l : LcS g h a b) (hg : GdP g) (hd : GdS D g a) (hh : h < gH g) : ∀ n, n ≤ gH g → LcS g h (wearN g d n a) (if h < n then wearS g b h d else b) := by
  intro n
  induction n with
  | zero => intro _; exact l
  | succ n ih =>
    intro hn
    have ih := ih (by omega)
    have hdn := hd.wearN hg (d := d) (n := n) (by omega)
    show LcS g h (wearS g (wearN g d n a) n d) _
    by_cases c : n = h
    · subst c
      rw [if_neg (by omega)] at ih
      rw [if_pos (by omega)]
      exact ih.same hg hdn hh
    · have := ih.other (d := d) hg hdn (k := n) (by omega) hh c
      by_cases c2 : h < n
      · rw [if_pos c2] at this; rw [if_pos (by omega)]; exact this
      · rw [if_neg c2] at this; rw [if_neg (by omega)]; exact this
theorem growN_row : sDay (growN g n s) = sDay s ∧ sWet (growN g n s) = sWet s ∧ sBur (growN g n s) = sBur s ∧ sSiz (growN g n s) = sSiz s ∧ sWor (growN g n s) = sWor s ∧ sWho (growN g n s) = sWho s ∧ sSor (growN g n s) = sSor s := by
  induction n with
  | zero => exact ⟨rfl, rfl, rfl, rfl, rfl, rfl, rfl⟩
  | succ n ih => exact ih
theorem growN_hee : sHee (growN g n s) u = if u < n then mnI 99 (sHee s u + gGro g u) else sHee s u := by
  induction n with
  | zero => rfl
  | succ n ih =>
    show upg (sHee (growN g n s)) n (mnI 99 (sHee (growN g n s) n + gGro g n)) u = _
    by_cases e : u = n
    · subst e
      rw [upg_eq, ih, if_neg (by omega), if_pos (by omega)]
    · rw [upg_ne e, ih]
      by_cases c : u < n
      · rw [if_pos c, if_pos (by omega)]
      · rw [if_neg c, if_neg (by omega)]
theorem wear_who (hh : sWho (wearS g s h d) h = nI u) (hu : u < 2 ^ 31) : sWho s h = nI u := by
  unfold wearS at hh
  split at hh
  · exact hh
  · split at hh
    · exact hh
    · have z : upg (sWho s) h (-1) h = nI u := hh
      rw [upg_eq] at z
      exact absurd z.symm (nI_nm1 hu)
theorem LcS.day (l : LcS g h a b) (hg : GdP g) (hd : GdS D g a) (hh : h < gH g) : LcS g h (dayS g d a) (aloneS g b h d) := by
  have g2 := hg.2.1
  have lw := l.wears (d := d) hg hd hh (gH g) (Nat.le_refl _)
  rw [if_pos hh] at lw
  obtain ⟨l1, l2, l3, l4, l5, l6, l7⟩ := lw
  obtain ⟨r1, r2, r3, r4, r5, r6, r7⟩ := growN_row (g := g) (n := gN g) (s := wearN g d (gH g) a)
  unfold dayS aloneS
  by_cases hw : sWho b h = -1
  · rw [if_pos hw]
    refine ⟨?_, rfl, ?_, ?_, ?_, ?_, ?_⟩
    · show sDay (growN _ _ _) + 1 = sDay (wearS g b h d) + 1; rw [r1, l1]
    · show bitI (sBur (growN _ _ _)) h = bitI (sBur (wearS g b h d)) h; rw [r3, l3]
    · show sSiz (growN _ _ _) h = sSiz (wearS g b h d) h; rw [r4, l4]
    · show sWor (growN _ _ _) h = sWor (wearS g b h d) h; rw [r5, l5]
    · show sWho (growN _ _ _) h = sWho (wearS g b h d) h; rw [r6, l6]
    · intro v hv z
      have z' : sWho (growN g (gN g) (wearN g d (gH g) a)) h = nI v := z
      rw [r6, l6] at z'
      have := wear_who z' (by omega)
      exact absurd (this.symm.trans hw) (nI_nm1 (by omega))
  · rw [if_neg hw]
    obtain ⟨q, hq, e, -⟩ := hd.who hh (fun z => hw (l.2.2.2.2.2.1.symm.trans z))
    have eb : sWho b h = nI q := l.2.2.2.2.2.1.symm.trans e
    rw [eb, nI_clamp (by omega)]
    refine ⟨?_, rfl, ?_, ?_, ?_, ?_, ?_⟩
    · show sDay (growN _ _ _) + 1 = sDay (wearS g b h d) + 1; rw [r1, l1]
    · show bitI (sBur (growN _ _ _)) h = bitI (sBur (wearS g b h d)) h; rw [r3, l3]
    · show sSiz (growN _ _ _) h = sSiz (wearS g b h d) h; rw [r4, l4]
    · show sWor (growN _ _ _) h = sWor (wearS g b h d) h; rw [r5, l5]
    · show sWho (growN _ _ _) h = sWho (wearS g b h d) h; rw [r6, l6]
    · intro v hv z
      have z' : sWho (growN g (gN g) (wearN g d (gH g) a)) h = nI v := z
      rw [r6] at z'
      have z2 := wear_who (l6.symm.trans z') (by omega)
      have : q = v := by
        have := eb.symm.trans z2
        rw [nI_eq (by omega) (by omega)] at this; exact this
      subst this
      show sHee (growN _ _ _) q = upg (sHee (wearS g b h d)) q (mnI 99 (sHee (wearS g b h d) q + gGro g q)) q
      rw [growN_hee, if_pos hv, upg_eq, l7 q hv z']
theorem GdS.alone (hd : GdS D g s) (hg : GdP g) (hh : h < gH g) (hD : D < 100000) : GdS (D + 1) g (aloneS g s h d) := by
  have g2 := hg.2.1
  unfold aloneS
  have h1 := hd.wear hg hh (d := d)
  split
  · exact h1.tick hD
  · rename_i hw
    obtain ⟨q, hq, e, -⟩ := hd.who hh hw
    rw [e, nI_clamp (by omega)]
    exact (h1.grow hg hq).tick hD
/-- alone, day by day -/
def aloN (g : Pg) (h : Nat) (s : Sg) : Nat → Sg := itN (fun _ t => aloneS g t h (dampS g t)) s
theorem loc_N (hg : GdP g) (hd : GdS D g s) (hh : h < gH g) (hD : D < 50000) : ∀ n, n < 50000 → LcS g h (passN g n s) (aloN g h s n) := by
  intro n
  induction n with
  | zero => intro _; exact LcS.refl
  | succ n ih =>
    intro hn
    have l := ih (by omega)
    show LcS g h (dayS g (dampS g (passN g n s)) (passN g n s)) (aloneS g (aloN g h s n) h (dampS g (aloN g h s n)))
    rw [l.damp]
    exact l.day hg (hd.passN hg (n := n) (by omega)) hh
theorem GdS.aloN (hd : GdS D g s) (hg : GdP g) (hh : h < gH g) (hD : D < 50000) : ∀ n : Nat, n < 50000 → GdS (D + n) g (aloN g h s n) := by
  intro n
  induction n with
  | zero => intro _; exact hd.mono (by omega)
  | succ n ih => intro hn; exact ((ih (by omega)).alone hg hh (by omega)).mono (by omega)
/-- in how many days it is burst first -/
def bP (g : Pg) (s : Sg) (h : Nat) (i : Nat) : Prop := bitI (sBur (passN g i s)) h = true
theorem CLa.till (c : CLa M p g s s' D) (hh : h < gH g) (hD : D < 50000) : ∃ M', F_X8_daysTillBurst 0 (nI h) M = some (if fsN (bP g s' h) (41 - 0) 0 < 41 then nI (fsN (bP g s' h) (41 - 0) 0) else -1, M') ∧ QC M M' := by
  have h8 := c.1.gp.h8 hh
  obtain ⟨M2, e2, w2⟩ := loop_fr (step := fun z : Int32 × Mem => F_X8_daysTillBurst_s2 0 (nI h) z.1 z.2) (fun i M' => (nI i, M')) (fun M' => .inl M') (fun i M' => .inr (nI i, M')) (Sum.elim (fun M42 => some ((-1 : Int32), M42)) (fun f44 => some f44)) (fun v M' => (v, M')) (bP g s' h) (fun i M' => CLa M' p g s (aloN g h s' i) (D + i) ∧ QC M M') (fun M' => QC M M') 0 41 (by omega) (M := M) ⟨⟨c.1, c.2.1, c.2.2.mono (by omega)⟩, QC.rfl'⟩ (by
    rintro i M' - hi ⟨c', w'⟩
    obtain ⟨M4, e4, c4, w4⟩ := c'.alone (d := dampS g (aloN g h s' i)) hh (c'.2.2.alone c'.1.gp hh (by omega))
    have hl := loc_N c.1.gp c.2.2 hh hD i (by omega)
    unfold F_X8_daysTillBurst_s2 bP
    dsimp only
    rw [if_neg (show ¬ (40 : Int32) < nI i from nI_nlt (b := i) (a := 40) (by omega) (by omega)), Lp_0_5 c'.1.1, ob_t, Lc_31 c'.1.1, c'.isB (show h < 31 by omega), ob_t, hl.2.2.1]
    cases hb : bitI (sBur (aloN g h s' i)) h
    · rw [if_pos (by simp), c'.1.pp, ob_t, ob_t, ob_t, ob_t, c'.1.ck, c'.damp, ob_t, c'.1.ck, e4, ob_t, nI_1]
      exact Or.inr ⟨by simp, M4, rfl, ⟨c4.1, c4.2.1, c4.2.2.mono (by omega)⟩, w'.trans w4⟩
    · rw [if_neg (by simp)]
      exact Or.inl ⟨rfl, M', rfl, w'⟩) (by
    rintro M' ⟨c', w'⟩
    refine ⟨?_, w'⟩
    unfold F_X8_daysTillBurst_s2
    simp only [if_pos (show (40 : Int32) < nI 41 from nI_lt (a := 40) (by omega) (by omega))]) (fun i M => rfl) (fun M => rfl)
  exact ⟨M2, e2, w2⟩
theorem fsN_le {P : Nat → Prop} : ∀ n i, i ≤ fsN P n i ∧ fsN P n i ≤ i + n := by
  intro n
  induction n with
  | zero => intro i; exact ⟨Nat.le_refl _, Nat.le_refl _⟩
  | succ n ih =>
    intro i
    by_cases c : P i
    · rw [fsN_y c]; omega
    · rw [fsN_n c]; have := ih (i + 1); omega
theorem fsN_lt {P : Nat → Prop} : ∀ n i k, i ≤ k → k < fsN P n i → ¬ P k := by
  intro n
  induction n with
  | zero => intro i k h1 h2; have : fsN P 0 i = i := rfl; omega
  | succ n ih =>
    intro i k h1 h2
    by_cases c : P i
    · rw [fsN_y c] at h2; omega
    · rw [fsN_n c] at h2
      by_cases e : k = i
      · rw [e]; exact c
      · exact ih (i + 1) k (by omega) h2
theorem fsN_at {P : Nat → Prop} : ∀ n i, fsN P n i < i + n → P (fsN P n i) := by
  intro n
  induction n with
  | zero => intro i h; have : fsN P 0 i = i := rfl; omega
  | succ n ih =>
    intro i h
    by_cases c : P i
    · rw [fsN_y c]; exact c
    · rw [fsN_n c] at h ⊢; exact ih (i + 1) (by omega)
/-- the reference's burstsIn -/
theorem MZu.bursts (m : MZu M g s) (hh : h < gH g) : ∃ M', F_X9_burstsIn 67 (nI h) M = some (if fsN (bP g s h) (41 - 0) 0 < 41 then nI (fsN (bP g s h) (41 - 0) 0) else 99999, M') ∧ MZu M' g s ∧ QW M M' := by
  have h8 := m.b.gp.h8 hh
  obtain ⟨M2, e1, m1, w1⟩ := m.tries
  obtain ⟨M3, e2, m3, w2⟩ := loop_f (step := fun z : Int32 × Mem => F_X9_burstsIn_s6 67 (nI h) z.1 z.2) (fun i M' => (nI i, M')) (fun M' => .inl M') (fun i M' => .inr (nI i, M')) (bP g s h) (fun i M' => MLa M' g s (passN g i s) (999 + i) ∧ QW M M') (fun M' => MZu M' g s ∧ QW M M') 41 (by
    rintro i M' hi ⟨m', w'⟩
    obtain ⟨M4, e4, m4, w4⟩ := m'.day (by omega)
    unfold F_X9_burstsIn_s6 bP
    dsimp only
    rw [if_neg (show ¬ (40 : Int32) < nI i from nI_nlt (b := i) (a := 40) (by omega) (by omega)), Lc_67 m'.1.lay, m'.2.isB (show h < 31 by omega), ob_t]
    cases hb : bitI (sBur (passN g i s)) h
    · rw [if_pos (by simp), Lc_67 m'.1.lay, e4, ob_t, nI_1]
      exact Or.inr ⟨by simp, M4, rfl, m4.mono (by omega), w'.trans w4⟩
    · rw [if_neg (by simp)]
      exact Or.inl ⟨rfl, M', rfl, m'.1, w'⟩) (by
    rintro M' ⟨m', w'⟩
    refine ⟨?_, m'.1, w'⟩
    unfold F_X9_burstsIn_s6
    simp only [if_pos (show (40 : Int32) < nI 41 from nI_lt (a := 40) (by omega) (by omega))]) (41 - 0) 0 M2 (by omega) ⟨m1.mono (by omega), w1⟩
  refine ⟨M3, ?_, m3, w2⟩
  unfold F_X9_burstsIn
  rw [Lc_67 m.lay, e1, ob_t]
  split at e2
  · rename_i z
    have e2' : loop (fun z : Int32 × Mem => F_X9_burstsIn_s6 67 (nI h) z.1 z.2) ((0 : Int32), M2) = some (Sum.inr (nI (fsN (bP g s h) (41 - 0) 0), M3)) := e2
    rw [e2', ob_t, if_pos z]; rfl
  · rename_i z
    have e2' : loop (fun z : Int32 × Mem => F_X9_burstsIn_s6 67 (nI h) z.1 z.2) ((0 : Int32), M2) = some (Sum.inl M3) := e2
    rw [e2', ob_t, if_neg z]; rfl
def usS (g : Pg) (s : Sg) : Int32 := itN (fun k a => if sWho s k = -1 then a else a ||| one k) 0 (gH g)
theorem CQ.uses (c : CQ M p g s) : F_X8_housesInUse 0 M = some (usS g s) := by
  have g1 := c.gp.1
  unfold F_X8_housesInUse
  have e := loop_p (step := fun z : Int32 × Int32 => F_X8_housesInUse_s4 0 M z.1 z.2) (fun i x => (x, nI i)) (fun k a => if sWho s k = -1 then a else a ||| one k) 0 (gH g) (r := usS g s) (by
    intro i hi
    unfold F_X8_housesInUse_s4
    simp only [c.pp, ob_t, c.nH, if_neg (nI_ge hi (show gH g < 2 ^ 31 by omega)), Lp_0_4 c.1, Lp_24_5 c.1, c.who hi, nm_t, nI_1]
    split <;> rfl) (by
    unfold F_X8_housesInUse_s4
    simp only [c.pp, ob_t, c.nH, if_pos (nI_le (Nat.le_refl (gH g)) (show gH g < 2 ^ 31 by omega))]
    rfl)
  exact (congrArg (fun o => Option.bind o _) e).trans rfl
theorem MZu.uses (m : MZu M g s) : F_X9_taken 67 M = some (usS g s) := by
  have g1 := m.b.gp.1
  unfold F_X9_taken
  have e := loop_p (step := fun z : Int32 × Int32 => F_X9_taken_s4 67 M z.1 z.2) (fun i x => (x, nI i)) (fun k a => if sWho s k = -1 then a else a ||| one k) 0 (gH g) (r := usS g s) (by
    intro i hi
    unfold F_X9_taken_s4
    simp only [ob_t, m.b.nH, if_neg (nI_ge hi (show gH g < 2 ^ 31 by omega)), Lp_67_41 m.lay, m.who hi, nm_t, nI_1, or0]
    split <;> rfl) (by
    unfold F_X9_taken_s4
    simp only [ob_t, m.b.nH, if_pos (nI_le (Nat.le_refl (gH g)) (show gH g < 2 ^ 31 by omega))]
    rfl)
  exact (congrArg (fun o => Option.bind o _) e).trans rfl
theorem us_bit (hg : GdP g) (k : Nat) : bitI (usS g s) k = true ↔ k < gH g ∧ sWho s k ≠ -1 := by
  have g1 := hg.1
  exact bits_row (P := fun k => sWho s k ≠ -1) (f := fun k a => if sWho s k = -1 then a else a ||| one k) (by omega) (fun i a _ h => if_neg h) (fun i a _ h => if_pos (Classical.not_not.mp h)) k
end
