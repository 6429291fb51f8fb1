/-! ===== two people change houses ===== -/
def LFb (m : Nat) (FL : Option (Int32 × Mem)) (mo : Mem → Option (Int32 × Mem)) : Prop := ∃ k M1 v M2, FL = some (k, M1) ∧ mo M1 = some (v, M2) ∧ Lay M1 ∧ Lay M2 ∧ mI M2 67 0 = k ∧ (k = 0 → (v = 0 ∧ mL M2 97 0 = 0) ∨ (v = 1 ∧ mL M2 97 0 = 1)) ∧ Inv M2 (m + 1)
section
variable {M M' M1 M2 Mx : Mem} {p m : Nat} {g : Pg} {s s' : Sg} {L L' : List Sg} {E E' : List Se} {I I' : Option (Sg × List Sg × List Se)} {R R' : Nat → Int32} {T T' : List Nat} {f f' : Int32}
def chW (w : Nat → Int32) (a b : Int32) (u o : Nat) : Nat → Int32 := fun k => if a ≠ -1 ∧ k = a.toNatClampNeg then nI o else if b ≠ -1 ∧ k = b.toNatClampNeg then nI u else w k
def chS (g : Pg) (s : Sg) (u o : Nat) : Sg := (sDay s, sWet s, sBur s, sSiz s, sWor s, chW (sWho s) (wheS g s u) (wheS g s o) u o, sHee s, sSor s)
theorem whe_ne {D : Int} {u o a b : Nat} (hg : GdP g) (hd : GdS D g s) (hu : u < gN g) (ho : o < gN g) (hne : u ≠ o) (ha : a < gH g) (hb : b < gH g) (e1 : wheS g s u = nI a) (e2 : wheS g s o = nI b) : a ≠ b := by
  have g2 := hg.2.1
  have z1 := (whe_iff hg hd ha (by omega)).mp e1
  have z2 := (whe_iff hg hd hb (by omega)).mp e2
  intro e
  subst e
  have := z1.symm.trans z2
  rw [nI_eq (by omega) (by omega)] at this
  exact hne this
theorem GdS.ch {D : Int} {u o : Nat} (hd : GdS D g s) (hg : GdP g) (hu : u < gN g) (ho : o < gN g) (hne : u ≠ o) : GdS D g (chS g s u o) := by
  have g1 := hg.1
  have g2 := hg.2.1
  obtain ⟨d1, d2, d3, d4, d5, d6, d7⟩ := id hd
  have key : ∀ k, k < gH g → (chW (sWho s) (wheS g s u) (wheS g s o) u o k = nI o ∧ sWho s k = nI u) ∨ (chW (sWho s) (wheS g s u) (wheS g s o) u o k = nI u ∧ sWho s k = nI o) ∨ (chW (sWho s) (wheS g s u) (wheS g s o) u o k = sWho s k ∧ sWho s k ≠ nI u ∧ sWho s k ≠ nI o) := by
    intro k hk
    unfold chW
    rcases whe_case (u := u) hg hd with ⟨a1, a2⟩ | ⟨a, a1, a2, a3⟩
    · rw [if_neg (fun z => z.1 a1)]
      rcases whe_case (u := o) hg hd with ⟨b1, b2⟩ | ⟨b, b1, b2, b3⟩
      · rw [if_neg (fun z => z.1 b1)]; exact Or.inr (Or.inr ⟨rfl, a2 k hk, b2 k hk⟩)
      · rw [b2, nI_clamp (by omega)]
        by_cases c : k = b
        · rw [if_pos ⟨nI_nm1 (by omega), c⟩]; exact Or.inr (Or.inl ⟨rfl, by rw [c]; exact b3⟩)
        · rw [if_neg (fun z => c z.2)]
          refine Or.inr (Or.inr ⟨rfl, a2 k hk, fun z => ?_⟩)
          have := (whe_iff hg hd hk (by omega)).mpr z
          rw [b2, nI_eq (by omega) (by omega)] at this; exact c this.symm
    · rw [a2, nI_clamp (by omega)]
      by_cases c : k = a
      · rw [if_pos ⟨nI_nm1 (by omega), c⟩]; exact Or.inl ⟨rfl, by rw [c]; exact a3⟩
      · rw [if_neg (fun z => c z.2)]
        have nu : sWho s k ≠ nI u := fun z => by
          have := (whe_iff hg hd hk (by omega)).mpr z
          rw [a2, nI_eq (by omega) (by omega)] at this; exact c this.symm
        rcases whe_case (u := o) hg hd with ⟨b1, b2⟩ | ⟨b, b1, b2, b3⟩
        · rw [if_neg (fun z => z.1 b1)]; exact Or.inr (Or.inr ⟨rfl, nu, b2 k hk⟩)
        · rw [b2, nI_clamp (by omega)]
          by_cases c2 : k = b
          · rw [if_pos ⟨nI_nm1 (by omega), c2⟩]; exact Or.inr (Or.inl ⟨rfl, by rw [c2]; exact b3⟩)
          · rw [if_neg (fun z => c2 z.2)]
            refine Or.inr (Or.inr ⟨rfl, nu, fun z => ?_⟩)
            have := (whe_iff hg hd hk (by omega)).mpr z
            rw [b2, nI_eq (by omega) (by omega)] at this; exact c2 this.symm
  have nuo : nI u ≠ nI o := fun z => hne ((nI_eq (by omega) (by omega)).mp z)
  refine ⟨d1, d2, fun k hk => ⟨(d3 k hk).1, (d3 k hk).2.1, ?_⟩, d4, fun j k hj hk e hn => ?_, fun k hk hn => ?_, d7⟩
  · show chW _ _ _ _ _ k = -1 ∨ ∃ p, p < gN g ∧ chW _ _ _ _ _ k = nI p
    rcases key k hk with z | z | z
    · exact Or.inr ⟨o, ho, z.1⟩
    · exact Or.inr ⟨u, hu, z.1⟩
    · rw [z.1]; exact (d3 k hk).2.2
  · have e' : chW (sWho s) (wheS g s u) (wheS g s o) u o j = chW (sWho s) (wheS g s u) (wheS g s o) u o k := e
    have hn' : chW (sWho s) (wheS g s u) (wheS g s o) u o j ≠ -1 := hn
    have inj : sWho s j = sWho s k → sWho s j ≠ -1 → j = k := fun a b => d5 j k hj hk a b
    rcases key j hj with z | z | z <;> rcases key k hk with y | y | y
    · exact inj (z.2.trans y.2.symm) (by rw [z.2]; exact nI_nm1 (by omega))
    · rw [z.1, y.1] at e'; exact absurd e'.symm nuo
    · rw [z.1, y.1] at e'; exact absurd e'.symm y.2.2
    · rw [z.1, y.1] at e'; exact absurd e' nuo
    · exact inj (z.2.trans y.2.symm) (by rw [z.2]; exact nI_nm1 (by omega))
    · rw [z.1, y.1] at e'; exact absurd e'.symm y.2.1
    · rw [z.1, y.1] at e'; exact absurd e' z.2.2
    · rw [z.1, y.1] at e'; exact absurd e' z.2.1
    · rw [z.1, y.1] at e'; rw [z.1] at hn'; exact inj e' hn'
  · have hn' : chW (sWho s) (wheS g s u) (wheS g s o) u o k ≠ -1 := hn
    show bitI (sBur s) k = false
    rcases key k hk with z | z | z
    · exact d6 k hk (by rw [z.2]; exact nI_nm1 (by omega))
    · exact d6 k hk (by rw [z.2]; exact nI_nm1 (by omega))
    · rw [z.1] at hn'; exact d6 k hk hn'
/-- out of the house, if in one -/
theorem F_leaveW {a u : Nat} {t : Sg} {D : Int} (hs : StV M a g t) (hg : GdP g) (hd : GdS D g t) (hu : u < gN g) : ∃ M', F_X6_leave a (nI u) M = some M' ∧ StV M' a g (sDay t, sWet t, sBur t, sSiz t, sWor t, (fun k => if wheS g t u ≠ -1 ∧ k = (wheS g t u).toNatClampNeg then -1 else sWho t k), sHee t, sSor t) ∧ Wr [a + 3, a + 5] M M' := by
  have g1 := hg.1
  have g2 := hg.2.1
  rcases whe_case (u := u) hg hd with ⟨z, -⟩ | ⟨j, hj, z1, z2⟩
  · refine ⟨M, F_leave0 hs hg hu z, ?_, Wr.rfl'⟩
    have : (fun k => if wheS g t u ≠ -1 ∧ k = (wheS g t u).toNatClampNeg then (-1 : Int32) else sWho t k) = sWho t := funext fun k => if_neg (fun y => y.1 z)
    rw [this]; exact hs
  · obtain ⟨M1, e1, s1, w1⟩ := F_leave (p := 0) hs hg hj hu z2 (fun k hk e => by
      have := (whe_iff hg hd hk (by omega)).mpr e
      rw [z1, nI_eq (by omega) (by omega)] at this; exact this.symm)
    refine ⟨M1, e1, ?_, w1⟩
    have : (fun k => if wheS g t u ≠ -1 ∧ k = (wheS g t u).toNatClampNeg then (-1 : Int32) else sWho t k) = upg (sWho t) j (-1) := funext fun k => by
      rw [z1, nI_clamp (by omega)]
      unfold upg
      by_cases c : k = j
      · rw [if_pos ⟨nI_nm1 (by omega), c⟩, if_pos c]
      · rw [if_neg (fun y => c y.2), if_neg c]
    rw [this]; exact s1
theorem F_settleW {u : Nat} {x : Int32} {t : Sg} (hL : Lay M) (hs : StV M 24 g t) (hg : GdP g) (hu : u < gN g) (hx : x = -1 ∨ ∃ h, h < gH g ∧ x = nI h ∧ sWho t h = -1) (hn : x ≠ -1 → ∀ k, k < gH g → sWho t k ≠ nI u) : ∃ M', F_X8_settleOrLodge 0 (nI u) x M = some M' ∧ StV M' 24 g (sDay t, sWet t, sBur t, sSiz t, sWor t, (fun k => if x ≠ -1 ∧ k = x.toNatClampNeg then nI u else sWho t k), sHee t, sSor t) ∧ Wr [27, 29] M M' := by
  have g1 := hg.1
  unfold F_X8_settleOrLodge
  rcases hx with z | ⟨h, hh, z1, z2⟩
  · rw [if_pos z]
    refine ⟨M, rfl, ?_, Wr.rfl'⟩
    have : (fun k => if x ≠ -1 ∧ k = x.toNatClampNeg then nI u else sWho t k) = sWho t := funext fun k => if_neg (fun y => y.1 z)
    rw [this]; exact hs
  · have n1 : x ≠ -1 := by rw [z1]; exact nI_nm1 (by omega)
    obtain ⟨M1, e1, s1, w1⟩ := F_settle hs hg hh hu z2 (hn n1)
    rw [if_neg n1, Lp_0_4 hL, ob_t, Lc_24 hL]
    subst z1
    rw [e1, ob_t]
    refine ⟨M1, rfl, ?_, w1⟩
    have : (fun k => if nI h ≠ -1 ∧ k = (nI h).toNatClampNeg then nI u else sWho t k) = upg (sWho t) h (nI u) := funext fun k => by
      rw [nI_clamp (by omega)]
      unfold upg
      by_cases c : k = h
      · rw [if_pos ⟨n1, c⟩, if_pos c]
      · rw [if_neg (fun y => c y.2), if_neg c]
    rw [this]; exact s1
theorem mapHOf {w w' : Nat → Int32} {u n : Nat} (h : ∀ k, k < n → w k = w' k) : hOf w u n = hOf w' u n := hOf_congr fun k hk => by rw [h k hk]
/-- the class's four moves -/
theorem C_ch {u o : Nat} (hc : CI M p g s L E I R T f) (hu : u < gN g) (ho : o < gN g) (hne : u ≠ o) : ∃ M1 M2 M3 M4, F_X6_leave 24 (nI u) M = some M1 ∧ F_X6_leave 24 (nI o) M1 = some M2 ∧ F_X8_settleOrLodge 0 (nI u) (wheS g s o) M2 = some M3 ∧ F_X8_settleOrLodge 0 (nI o) (wheS g s u) M3 = some M4 ∧ Lay M1 ∧ Lay M2 ∧ Lay M3 ∧ CI M4 p g (chS g s u o) L E I R T f ∧ Wr [27, 29] M M4 := by
  have hg := hc.2.2.2.1.2.1
  have hd := hc.2.2.2.2.2.2.1
  have g1 := hg.1
  have g2 := hg.2.1
  have nuo : nI u ≠ nI o := fun z => hne ((nI_eq (by omega) (by omega)).mp z)
  obtain ⟨M1, e1, s1, w1⟩ := F_leaveW hc.2.2.2.2.2.1 hg hd hu
  have l1 := hc.1.wr w1
  generalize ht1 : ((sDay s, sWet s, sBur s, sSiz s, sWor s, (fun k => if wheS g s u ≠ -1 ∧ k = (wheS g s u).toNatClampNeg then (-1 : Int32) else sWho s k), sHee s, sSor s) : Sg) = t1 at s1
  have hw1 : ∀ k, sWho t1 k = if wheS g s u ≠ -1 ∧ k = (wheS g s u).toNatClampNeg then (-1 : Int32) else sWho s k := fun k => by rw [← ht1]; rfl
  have hd1 : GdS 999 g t1 := by
    rcases whe_case (u := u) hg hd with ⟨z, -⟩ | ⟨j, hj, z1, z2⟩
    · have : t1 = s := by
        rw [← ht1]
        have : (fun k => if wheS g s u ≠ -1 ∧ k = (wheS g s u).toNatClampNeg then (-1 : Int32) else sWho s k) = sWho s := funext fun k => if_neg (fun y => y.1 z)
        rw [this]; rfl
      rw [this]; exact hd
    · have : t1 = outS s j := by
        rw [← ht1]
        have : (fun k => if wheS g s u ≠ -1 ∧ k = (wheS g s u).toNatClampNeg then (-1 : Int32) else sWho s k) = upg (sWho s) j (-1) := funext fun k => by
          rw [z1, nI_clamp (by omega)]
          unfold upg
          by_cases c : k = j
          · rw [if_pos ⟨nI_nm1 (by omega), c⟩, if_pos c]
          · rw [if_neg (fun y => c y.2), if_neg c]
        rw [this]; rfl
      rw [this]; exact hd.out
  have ho1 : wheS g t1 o = wheS g s o := hOf_congr fun k hk => by
    rw [hw1]
    rcases whe_case (u := u) hg hd with ⟨z, -⟩ | ⟨j, hj, z1, z2⟩
    · rw [if_neg (fun y => y.1 z)]
    · rw [z1, nI_clamp (by omega)]
      by_cases c : k = j
      · rw [if_pos ⟨nI_nm1 (by omega), c⟩, c, z2]
        exact ⟨fun y => absurd y.symm (nI_nm1 (by omega)), fun y => absurd y nuo⟩
      · rw [if_neg (fun y => c y.2)]
  obtain ⟨M2, e2, s2, w2⟩ := F_leaveW s1 hg hd1 ho
  have l2 := l1.wr w2
  rw [ho1] at s2
  generalize ht2 : ((sDay t1, sWet t1, sBur t1, sSiz t1, sWor t1, (fun k => if wheS g s o ≠ -1 ∧ k = (wheS g s o).toNatClampNeg then (-1 : Int32) else sWho t1 k), sHee t1, sSor t1) : Sg) = t2 at s2
  have hw2 : ∀ k, sWho t2 k = if wheS g s o ≠ -1 ∧ k = (wheS g s o).toNatClampNeg then (-1 : Int32) else if wheS g s u ≠ -1 ∧ k = (wheS g s u).toNatClampNeg then (-1 : Int32) else sWho s k := fun k => by
    rw [← ht2]
    show (if _ then _ else sWho t1 k) = _
    rw [hw1]
  have no : ∀ k, k < gH g → sWho t2 k ≠ nI u ∧ sWho t2 k ≠ nI o := by
    intro k hk
    rw [hw2]
    split
    · exact ⟨fun z => absurd z.symm (nI_nm1 (by omega)), fun z => absurd z.symm (nI_nm1 (by omega))⟩
    · rename_i c1
      split
      · exact ⟨fun z => absurd z.symm (nI_nm1 (by omega)), fun z => absurd z.symm (nI_nm1 (by omega))⟩
      · rename_i c2
        refine ⟨fun z => c2 ?_, fun z => c1 ?_⟩
        · have := (whe_iff hg hd hk (by omega)).mpr z
          rw [this, nI_clamp (by omega)]; exact ⟨nI_nm1 (by omega), rfl⟩
        · have := (whe_iff hg hd hk (by omega)).mpr z
          rw [this, nI_clamp (by omega)]; exact ⟨nI_nm1 (by omega), rfl⟩
  obtain ⟨M3, e3, s3, w3⟩ := F_settleW (x := wheS g s o) l2 s2 hg hu (by
    rcases whe_case (u := o) hg hd with ⟨z, -⟩ | ⟨j, hj, z1, z2⟩
    · exact Or.inl z
    · refine Or.inr ⟨j, hj, z1, ?_⟩
      rw [hw2, z1, nI_clamp (by omega), if_pos ⟨nI_nm1 (by omega), rfl⟩]) (fun _ k hk => (no k hk).1)
  have l3 := l2.wr w3
  generalize ht3 : ((sDay t2, sWet t2, sBur t2, sSiz t2, sWor t2, (fun k => if wheS g s o ≠ -1 ∧ k = (wheS g s o).toNatClampNeg then nI u else sWho t2 k), sHee t2, sSor t2) : Sg) = t3 at s3
  have hw3 : ∀ k, sWho t3 k = if wheS g s o ≠ -1 ∧ k = (wheS g s o).toNatClampNeg then nI u else sWho t2 k := fun k => by rw [← ht3]; rfl
  have nab : wheS g s u ≠ -1 → wheS g s o ≠ -1 → (wheS g s u).toNatClampNeg ≠ (wheS g s o).toNatClampNeg := by
    intro h1 h2
    rcases whe_case (u := u) hg hd with ⟨z, -⟩ | ⟨a, a1, a2, a3⟩
    · exact absurd z h1
    · rcases whe_case (u := o) hg hd with ⟨z, -⟩ | ⟨b, b1, b2, b3⟩
      · exact absurd z h2
      · rw [a2, b2, nI_clamp (by omega), nI_clamp (by omega)]; exact whe_ne hg hd hu ho hne a1 b1 a2 b2
  obtain ⟨M4, e4, s4, w4⟩ := F_settleW (x := wheS g s u) l3 s3 hg ho (by
    rcases whe_case (u := u) hg hd with ⟨z, -⟩ | ⟨j, hj, z1, z2⟩
    · exact Or.inl z
    · refine Or.inr ⟨j, hj, z1, ?_⟩
      have hz : wheS g s u ≠ -1 := by rw [z1]; exact nI_nm1 (by omega)
      have hc2 : ¬ (wheS g s o ≠ -1 ∧ j = (wheS g s o).toNatClampNeg) := fun y => by
        have := nab hz y.1
        rw [z1, nI_clamp (by omega)] at this
        exact this y.2
      rw [hw3, if_neg hc2, hw2, if_neg hc2, z1, nI_clamp (by omega), if_pos ⟨nI_nm1 (by omega), rfl⟩]) (fun _ k hk => by
    rw [hw3]
    split
    · exact nuo
    · exact (no k hk).2)
  have w : Wr [27, 29] M M4 := ((w1.trans w2).trans w3).trans w4
  refine ⟨M1, M2, M3, M4, e1, e2, e3, e4, l1, l2, l3, hc.now w (by decide) ?_ (hd.ch hg hu ho hne), w⟩
  have : (sDay t3, sWet t3, sBur t3, sSiz t3, sWor t3, (fun k => if wheS g s u ≠ -1 ∧ k = (wheS g s u).toNatClampNeg then nI o else sWho t3 k), sHee t3, sSor t3) = chS g s u o := by
    have ew : (fun k => if wheS g s u ≠ -1 ∧ k = (wheS g s u).toNatClampNeg then nI o else sWho t3 k) = chW (sWho s) (wheS g s u) (wheS g s o) u o := funext fun k => by
      unfold chW
      by_cases c1 : wheS g s u ≠ -1 ∧ k = (wheS g s u).toNatClampNeg
      · rw [if_pos c1, if_pos c1]
      · rw [if_neg c1, if_neg c1, hw3]
        by_cases c2 : wheS g s o ≠ -1 ∧ k = (wheS g s o).toNatClampNeg
        · rw [if_pos c2, if_pos c2]
        · rw [if_neg c2, if_neg c2, hw2, if_neg c2, if_neg c1]
    rw [ew, ← ht3, ← ht2, ← ht1]; rfl
  rw [← this]; exact s4
end
