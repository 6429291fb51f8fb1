section
variable {M : Mem} {p : Nat} {g : Pg} {s : Sg}
theorem P_burst (c : CQ M p g s) (x1 : Int32) : PR 0 M g s (F_X8_burst 0 x1 M) (F_X9_burst 67 x1) := by
  have g1 := c.gp.1
  have g2 := c.gp.2.1
  rcases hcase g x1 g1 with ⟨a1, ha1, rfl⟩ | hx
  rotate_left 1
  · refine Or.inr (Or.inl ⟨by decide, ?_, fun M1 m => ?_⟩)
    · unfold CT F_X8_burst
      have gx := c.needH' hx
      simp only [Lc_0 c.1, bdV_l, bdV_r, gx]
    · obtain ⟨e0, m0, -⟩ := m.zero
      have mx := m0.isH' hx
      refine MT.mk m (v := 0) ?_
      unfold F_X9_burst
      simp only [e0, ob_t, Lc_67 m0.lay, bd2_t, ifn1, mx]
      rfl
  refine Or.inl ⟨if fsN (bP g s a1) (41 - 0) 0 < 41 then nI (fsN (bP g s a1) (41 - 0) 0) else -1, ?_, fun M1 m => ?_⟩
  · unfold CR F_X8_burst
    have gc1 := c.needH ha1
    simp only [Lc_0 c.1, bdV_l, ob_t, gc1]
    obtain ⟨M1, e1, c1, w1⟩ := c.copyL
    obtain ⟨M2, e2, w2⟩ := c1.till ha1 (by omega)
    refine ⟨M2, ?_, w1.trans w2⟩
    simp only [Lp_0_5 c.1, Lp_0_4 c.1, ob_t, Lc_31 c.1, e1, Lc_0 c1.1.1, e2, bd2_t]
  · obtain ⟨e0, m0, w0⟩ := m.zero
    have gm1 := m0.isH ha1
    unfold MR F_X9_burst
    simp only [e0, ob_t, Lc_67 m0.lay, bd2_t, ifn1, gm1]
    generalize stI M1 67 0 0 = M0 at *
    obtain ⟨M2, e1, m1, w1⟩ := m0.bursts ha1
    refine ⟨M2, ?_, w0.trans w1, m1⟩
    rw [e1, bd2_t]
    have hl := (fsN_le (P := bP g s a1) (41 - 0) 0).2
    split
    · rename_i z
      rw [if_neg]
      intro y
      have : nI (fsN (bP g s a1) (41 - 0) 0) = nI 99999 := y
      rw [nI_eq (by omega) (by omega)] at this; omega
    · rw [if_pos rfl]

theorem F_leave0 {a u : Nat} {s' : Sg} (hs : StV M a g s') (hg : GdP g) (hu : u < gN g) (hw : wheS g s' u = -1) : F_X6_leave a (nI u) M = some M := by
  unfold F_X6_leave
  rw [gP_t hs.1.1 hs.1.2.2.2.2.2.1.2, ob_t, hs.we hg hu, ob_t, hw, if_pos rfl]
/-- somebody out of a house -/
def outS (s : Sg) (h : Nat) : Sg := (sDay s, sWet s, sBur s, sSiz s, sWor s, upg (sWho s) h (-1), sHee s, sSor s)
theorem GdS.out {D : Int} {h : Nat} (hd : GdS D g s) : GdS D g (outS s h) := by
  obtain ⟨d1, d2, d3, d4, d5, d6, d7⟩ := hd
  have eu : ∀ k, sWho (outS s h) k = if k = h then -1 else sWho s k := fun k => rfl
  refine ⟨d1, d2, fun k hk => ⟨(d3 k hk).1, (d3 k hk).2.1, ?_⟩, d4, fun j k hj hk e hn => ?_, fun k hk hn => ?_, d7⟩
  · rw [eu]
    split
    · exact Or.inl rfl
    · exact (d3 k hk).2.2
  · rw [eu, eu] at e
    rw [eu] at hn
    by_cases c1 : j = h
    · rw [if_pos c1] at hn; exact absurd rfl hn
    · rw [if_neg c1] at hn e
      by_cases c2 : k = h
      · rw [if_pos c2] at e; exact absurd e hn
      · rw [if_neg c2] at e; exact d5 j k hj hk e hn
  · rw [eu] at hn
    by_cases c1 : k = h
    · rw [if_pos c1] at hn; exact absurd rfl hn
    · rw [if_neg c1] at hn; exact d6 k hk hn
/-- somebody in a house in which nobody stays -/
def endS (g : Pg) (s : Sg) (u h : Nat) : Sg := putS (if wheS g s u = -1 then s else outS s (wheS g s u).toNatClampNeg) h u
theorem GdS.ends {D : Int} {u h : Nat} (hd : GdS D g s) (hg : GdP g) (hu : u < gN g) (hh : h < gH g) (hb : bitI (sBur s) h = false) : GdS D g (endS g s u h) := by
  have g1 := hg.1
  have g2 := hg.2.1
  unfold endS
  by_cases c1 : wheS g s u = -1
  · rw [if_pos c1]
    exact hd.put hg hh hu (fun k hk _ => whe_none c1 hg k hk) hb
  · rw [if_neg c1]
    refine hd.out.put hg hh hu (fun k hk hne e => ?_) hb
    rcases whe_case (u := u) hg hd with ⟨z, -⟩ | ⟨j, hj, z1, z2⟩
    · exact c1 z
    · rw [z1, nI_clamp (by omega)] at e
      have e' : (if k = j then (-1 : Int32) else sWho s k) = nI u := e
      by_cases c2 : k = j
      · rw [if_pos c2] at e'; exact absurd e'.symm (nI_nm1 (by omega))
      · rw [if_neg c2] at e'
        have := (whe_iff hg hd hk (by omega)).mpr e'
        rw [z1, nI_eq (by omega) (by omega)] at this
        exact c2 this.symm
theorem CLa.end1 {s' : Sg} {D : Int} {u h : Nat} (c : CLa M p g s s' D) (hu : u < gN g) (hh : h < gH g) (hb : bitI (sBur s') h = false) (ho : sWho s' h = -1) : ∃ M1, F_X6_leave 31 (nI u) M = some M1 ∧ ∃ M', F_X6_settle 31 (nI u) (nI h) M1 = some M' ∧ CLa M1 p g s (if wheS g s' u = -1 then s' else outS s' (wheS g s' u).toNatClampNeg) D ∧ CLa M' p g s (endS g s' u h) D ∧ QC M M' := by
  have g1 := c.1.gp.1
  have g2 := c.1.gp.2.1
  have hd := c.2.2.ends c.1.gp hu hh hb
  unfold endS at hd ⊢
  rcases whe_case (u := u) c.1.gp c.2.2 with ⟨z, z0⟩ | ⟨j, hj, z1, z2⟩
  · rw [if_pos z] at hd ⊢
    obtain ⟨M2, e2, hs2, w2⟩ := F_settle c.2.1 c.1.gp hh hu ho z0
    have wc : QC M M2 := w2.c (by decide)
    exact ⟨M, F_leave0 c.2.1 c.1.gp hu z, M2, e2, c, ⟨c.1.c wc, hs2, hd⟩, wc⟩
  · rw [if_neg (by rw [z1]; exact nI_nm1 (by omega)), z1, nI_clamp (by omega)] at hd ⊢
    obtain ⟨M1, e1, hs1, w1⟩ := F_leave (p := 0) c.2.1 c.1.gp hj hu z2 (fun k hk e => by
      have := (whe_iff c.1.gp c.2.2 hk (by omega)).mpr e
      rw [z1, nI_eq (by omega) (by omega)] at this
      exact this.symm)
    have wc1 : QC M M1 := w1.c (by decide)
    have c1 : CLa M1 p g s (outS s' j) D := ⟨c.1.c wc1, hs1, c.2.2.out⟩
    have hn : ∀ k, k < gH g → sWho (outS s' j) k ≠ nI u := by
      intro k hk e
      have e' : (if k = j then (-1 : Int32) else sWho s' k) = nI u := e
      by_cases c2 : k = j
      · rw [if_pos c2] at e'; exact absurd e'.symm (nI_nm1 (by omega))
      · rw [if_neg c2] at e'
        have := (whe_iff c.1.gp c.2.2 hk (by omega)).mpr e'
        rw [z1, nI_eq (by omega) (by omega)] at this
        exact c2 this.symm
    obtain ⟨M2, e2, hs2, w2⟩ := F_settle c1.2.1 c1.1.gp hh hu (by show upg (sWho s') j (-1) h = -1; unfold upg; split; rfl; exact ho) hn
    have wc2 : QC M1 M2 := w2.c (by decide)
    exact ⟨M1, e1, M2, e2, c1, ⟨c1.1.c wc2, hs2, hd⟩, wc1.trans wc2⟩
theorem whe_out {D : Int} {u h v : Nat} (hg : GdP g) (hd : GdS D g s) (hh : h < gH g) (ho : sWho s h = nI v) (hv : v < gN g) (hu : u < gN g) : wheS g (outS s h) u = if u = v then -1 else wheS g s u := by
  have g1 := hg.1
  have g2 := hg.2.1
  by_cases e : u = v
  · rw [if_pos e]
    refine hOf_none fun k hk z => ?_
    have z' : (if k = h then (-1 : Int32) else sWho s k) = nI u := z
    by_cases c2 : k = h
    · rw [if_pos c2] at z'; exact absurd z'.symm (nI_nm1 (by omega))
    · rw [if_neg c2] at z'
      subst e
      exact c2 (hd.2.2.2.2.1 k h hk hh (z'.trans ho.symm) (by rw [z']; exact nI_nm1 (by omega)))
  · rw [if_neg e]
    refine hOf_congr fun k hk => ?_
    show (if k = h then (-1 : Int32) else sWho s k) = nI u ↔ _
    by_cases c2 : k = h
    · rw [if_pos c2, c2, ho]
      constructor
      · intro z; exact absurd z.symm (nI_nm1 (by omega))
      · intro z; rw [nI_eq (by omega) (by omega)] at z; exact absurd z.symm e
    · rw [if_neg c2]
theorem ends_out {D : Int} {u h v : Nat} (hg : GdP g) (hd : GdS D g s) (hh : h < gH g) (ho : sWho s h = nI v) (hv : v < gN g) (hu : u < gN g) : endS g (outS s h) u h = endS g s u h := by
  have g1 := hg.1
  have g2 := hg.2.1
  unfold endS
  rw [whe_out hg hd hh ho hv hu]
  have key : ∀ w w' : Nat → Int32, (∀ k, k ≠ h → w k = w' k) → upg w h (nI u) = upg w' h (nI u) := by
    intro w w' hw
    funext k
    unfold upg
    by_cases e : k = h
    · rw [if_pos e, if_pos e]
    · rw [if_neg e, if_neg e]; exact hw k e
  by_cases e : u = v
  · rw [if_pos e, if_pos rfl]
    subst e
    have : wheS g s u = nI h := (whe_iff hg hd hh (by omega)).mpr ho
    rw [this, if_neg (nI_nm1 (by omega)), nI_clamp (by omega)]
  · rw [if_neg e]
    by_cases c1 : wheS g s u = -1
    · rw [if_pos c1, if_pos c1]
      show (_, _, _, _, _, upg (upg (sWho s) h (-1)) h (nI u), _, _) = (_, _, _, _, _, upg (sWho s) h (nI u), _, _)
      rw [key (upg (sWho s) h (-1)) (sWho s) (fun k hk => upg_ne hk)]
      rfl
    · rw [if_neg c1, if_neg c1]
      generalize (wheS g s u).toNatClampNeg = j
      show (_, _, _, _, _, upg (upg (upg (sWho s) h (-1)) j (-1)) h (nI u), _, _) = (_, _, _, _, _, upg (upg (sWho s) j (-1)) h (nI u), _, _)
      rw [key (upg (upg (sWho s) h (-1)) j (-1)) (upg (sWho s) j (-1)) (fun k hk => by unfold upg; simp [hk])]
      rfl
theorem MLa.setw {s' : Sg} {D : Int} {h : Nat} {v : Int32} {t : Sg} (m : MLa M g s s' D) (hh : h < gH g) (ht : t = (sDay s', sWet s', sBur s', sSiz s', sWor s', upg (sWho s') h v, sHee s', sSor s')) (hd : GdS D g t) : sI M 100 83 (62 + nI h) v = some (stI M 83 (43 + 19 + h) v) ∧ MLa (stI M 83 (43 + 19 + h) v) g s t D ∧ QW M (stI M 83 (43 + 19 + h) v) := by
  have g1 := m.1.b.gp.1
  have g2 := m.1.b.gp.2.1
  have wb : WB 43 M (stI M 83 (43 + 19 + h) v) := WB.rfl'.st (by omega) (by omega)
  refine ⟨m.2.sw (c := 19) (by omega), ⟨m.1.wb wb, m.2.of wb ?_ hd⟩, wb.qw⟩
  subst ht
  rw [mI_steq]
  obtain ⟨r1, r2, r3, r4, r5⟩ := m.2.rw
  refine ⟨?_, ?_, ?_, fun k hk => ⟨?_, ?_, ?_⟩, fun k hk => ⟨?_, ?_⟩⟩
  · rw [upg_ne (by omega)]; exact r1
  · rw [upg_ne (by omega)]; exact r2
  · rw [upg_ne (by omega)]; exact r3
  · rw [upg_ne (by omega)]; exact (r4 k hk).1
  · rw [upg_ne (by omega)]; exact (r4 k hk).2.1
  · show _ = upg (sWho s') h v k
    by_cases e : k = h
    · subst e; rw [upg_eq, upg_eq]
    · rw [upg_ne (by omega), upg_ne e]; exact (r4 k hk).2.2
  · rw [upg_ne (by omega)]; exact (r5 k hk).1
  · rw [upg_ne (by omega)]; exact (r5 k hk).2
theorem MLa.end2 {s' : Sg} {D : Int} {h : Nat} (m : MLa M g s s' D) (hh : h < gH g) (hD : D < 50000) (hb : bitI (sBur s') h = false) : ∃ M', (loop (fun z : Int32 × Mem => F_X9_endures_s73 67 (nI h) z.1 z.2) ((1 : Int32), M)).bind (Sum.elim (fun M40 => some ((-1 : Int32), M40)) (fun f42 => some f42)) = some (if fsN (bP g s' h) (41 - 0) 0 < 41 then nI (fsN (bP g s' h) (41 - 0) 0) else -1, M') ∧ MZu M' g s ∧ QW M M' := by
  have h8 := m.1.b.gp.h8 hh
  have e41 : fsN (bP g s' h) (41 - 0) 0 = fsN (bP g s' h) (41 - 1) 1 := fsN_n (n := 40) (by unfold bP; show ¬ bitI (sBur s') h = true; rw [hb]; simp)
  rw [e41]
  obtain ⟨M3, e2, m3, w2⟩ := loop_fr (step := fun z : Int32 × Mem => F_X9_endures_s73 67 (nI h) z.1 z.2) (fun i M' => (nI i, M')) (fun M' => .inl M') (fun i M' => .inr (nI i, M')) (Sum.elim (fun M42 => some ((-1 : Int32), M42)) (fun f44 => some f44)) (fun v M' => (v, M')) (bP g s' h) (fun i M' => MLa M' g s (passN g (i - 1) s') (D + i) ∧ QW M M') (fun M' => MZu M' g s ∧ QW M M') 1 41 (by omega) (M := M) ⟨m.mono (by omega), QW.rfl'⟩ (by
    rintro i M' hi0 hi ⟨m', w'⟩
    obtain ⟨j, rfl⟩ : ∃ j, i = j + 1 := ⟨i - 1, by omega⟩
    rw [Nat.add_sub_cancel] at m'
    obtain ⟨M4, e4, m4, w4⟩ := m'.day (by omega)
    unfold F_X9_endures_s73
    dsimp only
    rw [if_neg (show ¬ (40 : Int32) < nI (j + 1) from nI_nlt (b := j + 1) (a := 40) (by omega) (by omega)), Lc_67 m'.1.lay, e4, ob_t, Lc_67 m4.1.lay, m4.2.isB (show h < 31 by omega), ob_t, nI_1]
    cases hb2 : bitI (sBur (passS g (passN g j s'))) h
    · rw [if_pos (by simp)]
      exact Or.inr ⟨by show ¬ bitI (sBur (passS g (passN g j s'))) h = true; rw [hb2]; simp, M4, rfl, m4.mono (by omega), w'.trans w4⟩
    · rw [if_neg (by simp)]
      exact Or.inl ⟨hb2, M4, rfl, m4.1, w'.trans w4⟩) (by
    rintro M' ⟨m', w'⟩
    refine ⟨?_, m'.1, w'⟩
    unfold F_X9_endures_s73
    simp only [if_pos (show (40 : Int32) < nI 41 from nI_lt (a := 40) (by omega) (by omega))]) (fun i M => rfl) (fun M => rfl)
  exact ⟨M3, e2, m3, w2⟩
theorem P_endures (c : CQ M p g s) (x1 x2 : Int32) : PR 0 M g s (F_X8_endures 0 x1 x2 M) (F_X9_endures 67 x1 x2) := by
  have g1 := c.gp.1
  have g2 := c.gp.2.1
  rcases pcase g x1 g2 with ⟨a1, ha1, rfl⟩ | hx
  rotate_left 1
  · refine Or.inr (Or.inl ⟨by decide, ?_, fun M1 m => ?_⟩)
    · unfold CT F_X8_endures
      have gx := c.needP' hx
      simp only [Lc_0 c.1, bdV_l, bdV_r, gx]
    · obtain ⟨e0, m0, -⟩ := m.zero
      have mx := m0.isP' hx
      refine MT.mk m (v := 0) ?_
      unfold F_X9_endures
      simp only [e0, ob_t, Lc_67 m0.lay, bd2_t, ifn1, mx]
      rfl
  rcases hcase g x2 g1 with ⟨a2, ha2, rfl⟩ | hx
  rotate_left 1
  · refine Or.inr (Or.inl ⟨by decide, ?_, fun M1 m => ?_⟩)
    · unfold CT F_X8_endures
      have gc1 := c.needP ha1
      have gx := c.needH' hx
      simp only [Lc_0 c.1, bdV_l, bdV_r, gx, gc1]
    · obtain ⟨e0, m0, -⟩ := m.zero
      have gm1 := m0.isP ha1
      have mx := m0.isH' hx
      refine MT.mk m (v := 0) ?_
      unfold F_X9_endures
      simp only [e0, ob_t, Lc_67 m0.lay, bd2_t, ifn1, mx, gm1]
      rfl
  refine Or.inl ⟨if bitI (sBur s) a2 then -1 else if fsN (bP g (endS g s a1 a2) a2) (41 - 0) 0 < 41 then nI (fsN (bP g (endS g s a1 a2) a2) (41 - 0) 0) else -1, ?_, fun M1 m => ?_⟩
  · unfold CR F_X8_endures
    have gc1 := c.needP ha1
    have gc2 := c.needH ha2
    simp only [Lc_0 c.1, bdV_l, ob_t, gc1, gc2]
    have h8 : a2 < 31 := by omega
    simp only [Lp_0_4 c.1, ob_t, Lc_24 c.1, c.isB h8]
    cases hb : bitI (sBur s) a2
    · simp only [Bool.false_eq_true, if_false, ifz, if_true]
      obtain ⟨M1, e1, c1, w1⟩ := c.copyL
      simp only [Lp_0_5 c.1, ob_t, Lc_31 c.1, e1, Lp_0_5 c1.1.1, Lp_31_5 c1.1.1, c1.who ha2, Lc_31 c1.1.1]
      have jj : ∀ (N : Mem) (t : Sg), CLa N p g s t 999 → bitI (sBur t) a2 = false → sWho t a2 = -1 → endS g t a1 a2 = endS g s a1 a2 → QC M N → ∃ M', F_X8_endures_j63 0 (nI a1) (nI a2) N = some (.inl (if fsN (bP g (endS g s a1 a2) a2) (41 - 0) 0 < 41 then nI (fsN (bP g (endS g s a1 a2) a2) (41 - 0) 0) else -1, M')) ∧ QC M M' := by
        intro N t cN hbt hot het wN
        obtain ⟨M3, e3, M4, e4, c3, c4, w4⟩ := cN.end1 ha1 ha2 hbt hot
        rw [het] at c4
        obtain ⟨M5, e5, w5⟩ := c4.till ha2 (by omega)
        refine ⟨M5, ?_, (wN.trans w4).trans w5⟩
        unfold F_X8_endures_j63
        rw [Lp_0_5 cN.1.1, ob_t, Lc_31 cN.1.1, e3, ob_t, Lp_0_5 c3.1.1, ob_t, Lc_31 c3.1.1, e4, ob_t, Lc_0 c4.1.1, e5, bd2_t]
      by_cases ho : sWho s a2 = -1
      · rw [if_pos ho]
        exact jj M1 s c1 hb ho rfl w1
      · rw [if_neg ho]
        obtain ⟨v, hv, ev, hu⟩ := c.gd.who ha2 ho
        rw [ev]
        obtain ⟨M2, e2, hs2, w2⟩ := F_leave (p := 0) c1.2.1 c1.1.gp ha2 hv ev hu
        have wc2 : QC M1 M2 := w2.c (by decide)
        rw [e2, ob_t]
        exact jj M2 (outS s a2) ⟨c1.1.c wc2, hs2, c1.2.2.out⟩ hb (by show upg (sWho s) a2 (-1) a2 = -1; rw [upg_eq]) (ends_out c.gp c.gd ha2 ev hv ha1) (w1.trans wc2)
    · simp only [if_true, ifn1]
      exact ⟨M, rfl, QC.rfl'⟩
  · obtain ⟨e0, m0, w0⟩ := m.zero
    have gm1 := m0.isP ha1
    have gm2 := m0.isH ha2
    unfold MR F_X9_endures
    simp only [e0, ob_t, Lc_67 m0.lay, bd2_t, ifn1, gm1, gm2]
    generalize stI M1 67 0 0 = M0 at *
    have h8 : a2 < 31 := by omega
    simp only [ob_t, m0.b.isB h8]
    cases hb : bitI (sBur s) a2
    · simp only [Bool.false_eq_true, if_false, ifz, if_true]
      obtain ⟨M2, e1, m1, w1⟩ := m0.tries
      rw [e1, ob_t, Lc_67 m1.1.lay, m1.1.b.hof (u := a1) rfl, ob_t]
      have hd := m0.b.gd.ends m0.b.gp ha1 ha2 hb
      have jj : ∀ (N : Mem) (t : Sg), MLa N g s t 999 → putS t a2 a1 = endS g s a1 a2 → QW M1 N → ∃ M', F_X9_endures_j60 67 (nI a1) (nI a2) N = some (if fsN (bP g (endS g s a1 a2) a2) (41 - 0) 0 < 41 then nI (fsN (bP g (endS g s a1 a2) a2) (41 - 0) 0) else -1, M') ∧ QW M1 M' ∧ MZu M' g s := by
        intro N t mN het wN
        obtain ⟨e3, m3, w3⟩ := mN.setw (v := nI a1) (t := endS g s a1 a2) ha2 (by rw [← het]; rfl) hd
        obtain ⟨M5, e5, m5, w5⟩ := m3.end2 ha2 (by omega) (by unfold endS; split <;> exact hb)
        refine ⟨M5, ?_, (wN.trans w3).trans w5, m5⟩
        unfold F_X9_endures_j60
        rw [Lp_67_41 mN.1.lay, ob_t, e3, ob_t, e5]
      rcases whe_case (u := a1) m0.b.gp m0.b.gd with ⟨z, -⟩ | ⟨j, hj, z1, z2⟩
      · rw [if_pos z]
        exact jj M2 s m1 (by unfold endS; rw [if_pos z]) (w0.trans w1)
      · rw [if_neg (by rw [z1]; exact nI_nm1 (by omega)), Lp_67_41 m1.1.lay, ob_t, z1]
        obtain ⟨e3, m3, w3⟩ := m1.setw (v := -1) (t := outS s j) hj rfl m1.2.gd.out
        rw [e3, ob_t]
        exact jj _ (outS s j) m3 (by unfold endS; rw [if_neg (by rw [z1]; exact nI_nm1 (by omega)), z1, nI_clamp (by omega)]) ((w0.trans w1).trans w3)
    · simp only [if_true, ifn1]
      exact ⟨M0, rfl, w0, m0⟩
end
