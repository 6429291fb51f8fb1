section
variable {M : Mem} {p : Nat} {g : Pg} {s : Sg}

theorem sw3 {α : Type} {k : Nat} (h : k ≤ 2) {x y z : α} : (if nI k = 0 then x else if nI k = 1 then y else z) = if k = 0 then x else if k = 1 then y else z := by
  have : k = 0 ∨ k = 1 ∨ k = 2 := by omega
  rcases this with rfl | rfl | rfl <;> rfl
theorem ap3 {α β : Type} {k : Nat} (f : α → β) {x y z : α} : (if k = 0 then f x else if k = 1 then f y else f z) = f (if k = 0 then x else if k = 1 then y else z) := by
  split
  · rfl
  · split <;> rfl
def lcg (x : Int32) : Int32 := x * 1103515245 + 12345
def putS (s : Sg) (h u : Nat) : Sg := (sDay s, sWet s, sBur s, sSiz s, sWor s, upg (sWho s) h (nI u), sHee s, sSor s)
theorem GdS.put {D : Int} {h u : Nat} (hd : GdS D g s) (hg : GdP g) (hh : h < gH g) (hu : u < gN g) (h2 : ∀ k, k < gH g → k ≠ h → sWho s k ≠ nI u) (h3 : bitI (sBur s) h = false) : GdS D g (putS s h u) := by
  obtain ⟨d1, d2, d3, d4, d5, d6, d7⟩ := hd
  have g2 := hg.2.1
  have eu : ∀ k, sWho (putS s h u) k = if k = h then nI u else sWho s k := fun k => rfl
  refine ⟨d1, d2, fun k hk => ⟨(d3 k hk).1, (d3 k hk).2.1, ?_⟩, d4, fun j k hj hk e hn => ?_, fun k hk hn => ?_, d7⟩
  · rw [eu]
    split
    · exact Or.inr ⟨u, hu, rfl⟩
    · exact (d3 k hk).2.2
  · rw [eu, eu] at e
    rw [eu] at hn
    by_cases c1 : j = h
    · by_cases c2 : k = h
      · omega
      · rw [if_pos c1, if_neg c2] at e
        exact absurd e.symm (h2 k hk c2)
    · by_cases c2 : k = h
      · rw [if_neg c1, if_pos c2] at e
        exact absurd e (h2 j hj c1)
      · rw [if_neg c1, if_neg c2] at e
        rw [if_neg c1] at hn
        exact d5 j k hj hk e hn
  · by_cases c1 : k = h
    · rw [c1]; exact h3
    · rw [eu, if_neg c1] at hn
      exact d6 k hk hn
noncomputable def tryS (g : Pg) (s : Sg) (u h : Nat) (d : Int32) : Sg := if wheS g s u = -1 then (if sWho s h = -1 then (if goI g s u h d = 0 then s else putS s h u) else s) else s
theorem whe_none {u : Nat} (h : wheS g s u = -1) (hg : GdP g) : ∀ k, k < gH g → sWho s k ≠ nI u := by
  have g1 := hg.1
  rcases hOf_cases (w := sWho s) (p := u) (n := gH g) with ⟨-, z⟩ | ⟨k, z1, z2, z3⟩
  · exact z
  · exact absurd (z2.symm.trans h) (nI_nm1 (by omega))
theorem GdS.try {D : Int} {h u : Nat} {d : Int32} (hd : GdS D g s) (hg : GdP g) (hh : h < gH g) (hu : u < gN g) : GdS D g (tryS g s u h d) := by
  unfold tryS
  split
  · rename_i c1
    split
    · split
      · exact hd
      · rename_i c3
        rcases goI_01 (g := g) (s := s) (p := u) (h := h) (d := d) with ⟨-, z⟩ | ⟨z, -⟩
        · exact hd.put hg hh hu (fun k hk _ => whe_none c1 hg k hk) (by have := z.1; unfold burS at this; simpa using this)
        · exact absurd z c3
    · exact hd
  · exact hd
noncomputable def yrS (g : Pg) (a : Int32 × Sg) : Int32 × Sg :=
  if gN g = 0 ∨ gH g = 0 then (lcg a.1, dayS g (nI (drN (lcg a.1) 10)) a.2)
  else (lcg (lcg (lcg a.1)), dayS g (nI (drN (lcg a.1) 10)) (tryS g a.2 (drN (lcg (lcg a.1)) (gN g)) (drN (lcg (lcg (lcg a.1))) (gH g)) (nI (drN (lcg a.1) 10))))
theorem F_dA {x : Int32} : F_X8_drawAfter x M = some (lcg x) := by unfold F_X8_drawAfter lcg; exact Eq.refl _
theorem drN_lt {x : Int32} {n : Nat} (h : 0 < n) : drN x n < n := Nat.mod_lt _ h
theorem F_draw8 {x : Int32} {n : Nat} (h0 : 0 < n) (hn : n < 2 ^ 31) : F_X8_draw x (nI n) M = some (nI (drN x n)) := by
  unfold F_X8_draw
  rw [if_neg (nI_nle h0 hn), if_neg (nI_ne0 h0 hn), drw_u, drw_rem h0 hn]
theorem CLa.try {s' : Sg} {D : Int} {u h : Nat} {d : Int32} (c : CLa M p g s s' D) (hu : u < gN g) (hh : h < gH g) : ∃ M', F_X8_tryIn 0 (nI u) (nI h) d M = some M' ∧ CLa M' p g s (tryS g s' u h d) D ∧ QC M M' := by
  obtain ⟨M1, e1, c1, w1⟩ := c.go hu hh (d := d)
  unfold F_X8_tryIn F_X8_tryIn_j30 F_X8_tryIn_j31 tryS
  simp only [Lp_0_5 c.1.1, ob_t, Lp_31_7 c.1.1, c.whe hu, Lp_31_5 c.1.1, c.who hh, ifz, ifn1, c.1.pp, c.1.ck, e1, bd2_t, Lp_0_5 c1.1.1, Lc_31 c1.1.1]
  by_cases z1 : wheS g s' u = -1
  · rw [if_pos z1, if_pos z1]
    by_cases z2 : sWho s' h = -1
    · rw [if_pos z2, if_pos z2]
      by_cases z3 : goI g s' u h d = 0
      · rw [if_pos z3, if_pos z3]; exact ⟨M1, rfl, c1, w1⟩
      · rw [if_neg z3, if_neg z3]
        obtain ⟨M2, e2, hs2, w2⟩ := F_settle c1.2.1 c1.1.gp hh hu z2 (whe_none z1 c1.1.gp)
        have wc : QC M1 M2 := w2.c (by decide)
        rw [e2, ob_t]
        have hd := c.2.2.try c.1.gp hh hu (d := d)
        unfold tryS at hd
        rw [if_pos z1, if_pos z2, if_neg z3] at hd
        exact ⟨M2, rfl, ⟨c1.1.c wc, hs2, hd⟩, w1.trans wc⟩
    · rw [if_neg z2, if_neg z2]; exact ⟨M, rfl, c, QC.rfl'⟩
  · rw [if_neg z1, if_neg z1]; exact ⟨M, rfl, c, QC.rfl'⟩
-- the reference with another damp
def MLo (M : Mem) (g : Pg) (s s' : Sg) (D : Int) (o : Int32) : Prop := MB M 0 0 g s 999 ∧ mI M 67 0 = 0 ∧ MB M 43 43 g s' D ∧ mI M 67 46 = o
theorem MLa.o {s' : Sg} {D : Int} (m : MLa M g s s' D) : MLo M g s s' D (-1) := ⟨m.1.1.1, m.1.2, m.2, m.1.1.2⟩
theorem MLo.a {s' : Sg} {D : Int} (m : MLo M g s s' D (-1)) : MLa M g s s' D := ⟨⟨⟨m.1, m.2.2.2⟩, m.2.1⟩, m.2.2.1⟩
theorem MLo.mono {s' : Sg} {D D' : Int} {o : Int32} (m : MLo M g s s' D o) (h : D ≤ D') : MLo M g s s' D' o := ⟨m.1, m.2.1, ⟨m.2.2.1.1, m.2.2.1.2.1, m.2.2.1.2.2.1, m.2.2.1.2.2.2.1, m.2.2.1.rw, m.2.2.1.gd.mono h⟩, m.2.2.2⟩
theorem MLo.wb {M' : Mem} {s' s'' : Sg} {D D' : Int} {o : Int32} (m : MLo M g s s' D o) (w : WB 43 M M') (m' : MB M' 43 43 g s'' D') : MLo M' g s s'' D' o := by
  have e : mI M' 67 = mI M 67 := w.2.2.2.2.1 67 (by decide)
  refine ⟨⟨Lay.wb m.1.1 w, MPl.wb m.1.2.1 w, m.1.2.2.1, m.1.2.2.2.1, m.1.rw.eq m.1.gp fun j h1 h2 => w.2.2.2.2.2 j (by omega), m.1.gd⟩, by rw [e]; exact m.2.1, m', by rw [e]; exact m.2.2.2⟩
theorem MLo.day {s' : Sg} {D : Int} {o : Int32} (m : MLo M g s s' D o) (ho : o ≠ -1) (hD : D < 100000) : ∃ M', F_X9_dayGoes 67 43 M = some M' ∧ MLo M' g s (dayS g o s') (D + 1) o ∧ QW M M' := by
  obtain ⟨M', e, m', w⟩ := m.2.2.1.dayG hD
  have eo : dmp (mI M 67 46) g s' = o := by unfold dmp; rw [m.2.2.2, if_neg ho]
  rw [eo] at m'
  exact ⟨M', e, m.wb w m', w.qw⟩
theorem MLo.set {s' : Sg} {D : Int} {o v : Int32} {j : Nat} (m : MLo M g s s' D o) (hj : j = 46 ∨ j = 55) : pI M 9 67 j v = some (stI M 67 j v) ∧ MLo (stI M 67 j v) g s s' D (if j = 46 then v else o) ∧ QW M (stI M 67 j v) := by
  have w : QW M (stI M 67 j v) := QW.rfl'.st (Or.inr (Or.inr ⟨rfl, Or.inr hj⟩))
  have e83 : mI (stI M 67 j v) 83 = mI M 83 := mI_stne (by omega)
  refine ⟨Ls_67 m.1.1, ⟨⟨m.1.1, m.1.2.1.q w, m.1.2.2.1, m.1.2.2.2.1, by rw [e83]; exact m.1.rw, m.1.gd⟩, ?_, ⟨m.2.2.1.1, m.2.2.1.2.1.q w, m.2.2.1.2.2.1, m.2.2.1.2.2.2.1, by rw [e83]; exact m.2.2.1.rw, m.2.2.1.gd⟩, ?_⟩, w⟩
  · rw [mI_steq, upg_ne (by omega)]; exact m.2.1
  · rw [mI_steq]
    rcases hj with rfl | rfl
    · rw [upg_eq, if_pos rfl]
    · rw [upg_ne (by omega), if_neg (by omega)]; exact m.2.2.2
theorem MLo.go {s' : Sg} {D : Int} {o : Int32} {u h : Nat} (m : MLo M g s s' D o) (hu : u < gN g) (hh : h < gH g) (ho : bnd o 0 9) : ∃ M', F_X9_wouldGo 67 43 (nI u) (nI h) M = some (goI g s' u h o, M') ∧ MLo M' g s s' D o ∧ Wr [85, 86] M M' := by
  obtain ⟨M', e, w⟩ := m.2.2.1.go hu hh (Or.inr (by rw [m.2.2.2]; exact ho))
  have eo : dmp (mI M 67 46) g s' = o := by
    unfold dmp; rw [m.2.2.2, if_neg]
    intro z; rw [z] at ho; have := ho.1; rw [tnm1] at this; omega
  rw [eo] at e
  exact ⟨M', e, m.wb (Wr.wb w (by decide)) (m.2.2.1.wr w (by decide)), w⟩
theorem MLo.draw {s' : Sg} {D : Int} {o : Int32} {n : Nat} (m : MLo M g s s' D o) (h0 : 0 < n) (hn : n < 2 ^ 31) : ∃ M', F_X9_draw 67 (nI n) M = some (nI (drN (lcg (mI M 67 55)) n), M') ∧ MLo M' g s s' D o ∧ mI M' 67 55 = lcg (mI M 67 55) ∧ QW M M' := by
  obtain ⟨e1, m1, w1⟩ := m.set (j := 55) (v := lcg (mI M 67 55)) (Or.inr rfl)
  rw [if_neg (by omega)] at m1
  refine ⟨_, ?_, m1, by rw [mI_steq, upg_eq], w1⟩
  have el : ∀ x : Int32, x * 1103515245 + 12345 = lcg x := fun x => by unfold lcg; exact Eq.refl _
  unfold F_X9_draw
  rw [Lf_67 m.1.1, ob_t, el, e1, ob_t, Lf_67 m1.1.1, ob_t, mI_steq, upg_eq, if_neg (nI_ne0 h0 hn)]
  have := drw_rem (x := lcg (mI M 67 55)) h0 hn
  unfold drw at this
  rw [this]
theorem MLo.happ {s' : Sg} {D : Int} {o : Int32} (m : MLo M g s s' D o) (hN : 0 < gN g) (hH : 0 < gH g) (ho : bnd o 0 9) : ∃ M', F_X9_happens 67 M = some M' ∧ MLo M' g s (tryS g s' (drN (lcg (mI M 67 55)) (gN g)) (drN (lcg (lcg (mI M 67 55))) (gH g)) o) D o ∧ mI M' 67 55 = lcg (lcg (mI M 67 55)) ∧ QW M M' := by
  have g1 := m.1.gp.1
  have g2 := m.1.gp.2.1
  obtain ⟨M1, e1, m1, f1, w1⟩ := m.draw hN (by omega)
  obtain ⟨M2, e2, m2, f2, w2⟩ := m1.draw hH (by omega)
  rw [f1] at f2 e2
  have hu := drN_lt (x := lcg (mI M 67 55)) hN
  have hh := drN_lt (x := lcg (lcg (mI M 67 55))) hH
  generalize drN (lcg (mI M 67 55)) (gN g) = u at *
  generalize drN (lcg (lcg (mI M 67 55))) (gH g) = h at *
  obtain ⟨M3, e3, m3, w3⟩ := m2.go hu hh ho
  have hwho : aI M2 100 83 (62 + nI h) = some (sWho s' h) := m2.2.2.1.who hh
  unfold F_X9_happens tryS
  simp only [m.1.nN, ob_t, Lc_67 m.1.1, e1, bd2_t, m1.1.nH, Lc_67 m1.1.1, e2, Lc_67 m2.1.1, m2.2.2.1.hof (u := u) rfl, Lp_67_41 m2.1.1, hwho, e3, Lp_67_41 m3.1.1]
  by_cases z1 : wheS g s' u = -1
  · rw [if_pos z1, if_pos z1]
    by_cases z2 : sWho s' h = -1
    · rw [if_pos z2, if_pos z2]
      have f3 : mI M3 67 = mI M2 67 := w3.2.2.2.2 67 (by decide)
      have q3 : QW M2 M3 := w3.q (by decide)
      by_cases z3 : goI g s' u h o = 0
      · rw [if_pos z3, if_pos z3]; exact ⟨M3, rfl, m3, by rw [f3]; exact f2, (w1.trans w2).trans q3⟩
      · rw [if_neg z3, if_neg z3]
        have h8 := m.1.gp.h8 hh
        have hd := m.2.2.1.gd.try m.1.gp hh hu (d := o)
        unfold tryS at hd
        rw [if_pos z1, if_pos z2, if_neg z3] at hd
        have es : sI M3 100 83 (62 + nI h) (nI u) = some (stI M3 83 (43 + 19 + h) (nI u)) := m3.2.2.1.sw (c := 19) (by omega)
        rw [es, ob_t]
        have wb : WB 43 M3 (stI M3 83 (43 + 19 + h) (nI u)) := WB.rfl'.st (by omega) (by omega)
        refine ⟨_, rfl, m3.wb wb (m3.2.2.1.of wb ?_ hd), by rw [mI_stne (by omega), f3]; exact f2, ((w1.trans w2).trans q3).trans wb.qw⟩
        rw [mI_steq]
        obtain ⟨r1, r2, r3, r4, r5⟩ := m3.2.2.1.rw
        refine ⟨?_, ?_, ?_, fun k hk => ⟨?_, ?_, ?_⟩, fun k hk => ⟨?_, ?_⟩⟩
        · rw [upg_ne (by omega)]; exact r1
        · rw [upg_ne (by omega)]; exact r2
        · rw [upg_ne (by omega)]; exact r3
        · rw [upg_ne (by omega)]; exact (r4 k hk).1
        · rw [upg_ne (by omega)]; exact (r4 k hk).2.1
        · show _ = upg (sWho s') h (nI u) k
          by_cases e : k = h
          · subst e; rw [upg_eq, upg_eq]
          · rw [upg_ne (by omega), upg_ne e]; exact (r4 k hk).2.2
        · rw [upg_ne (by omega)]; exact (r5 k hk).1
        · rw [upg_ne (by omega)]; exact (r5 k hk).2
    · rw [if_neg z2, if_neg z2]; exact ⟨M2, rfl, m2, f2, w1.trans w2⟩
  · rw [if_neg z1, if_neg z1]; exact ⟨M2, rfl, m2, f2, w1.trans w2⟩
theorem bur8 {D : Int} (hg : GdP g) (hd : GdS D g s) : ∀ k, 8 ≤ k → bitI (sBur s) k = false := fun k hk => hd.2.2.2.2.2.2 k (by have := hg.1; omega)
theorem lod8 (hg : GdP g) : ∀ k, 8 ≤ k → bitI (lodS g s) k = false := fun k hk => by
  have g2 := hg.2.1
  have := bits_row (P := fun q => wheS g s q = -1) (f := fun q a => if wheS g s q = -1 then a ||| one q else a) (n := gN g) (by omega) (fun i a _ h => if_pos h) (fun i a _ h => if_neg h) k
  cases hb : bitI (lodS g s) k
  · rfl
  · have := (this.mp hb).1; omega

theorem CLa.year1 {a : Int32 × Sg} {D : Int} {n i : Nat} (c' : CLa M p g s a.2 D) (hD : D < 50000) (hi : i < n) (hn : n < 2 ^ 31) : ∃ M', F_X8_years_s27 0 (nI n) a.1 (nI i) M = some (.inl ((yrS g a).1, nI (i + 1), M')) ∧ CLa M' p g s (yrS g a).2 (D + 1) ∧ QC M M' := by
  have g1 := c'.1.gp.1
  have g2 := c'.1.gp.2.1
  obtain ⟨sd, t⟩ := a
  have e10 : F_X8_draw (lcg sd) 10 M = some (nI (drN (lcg sd) 10)) := F_draw8 (n := 10) (by omega) (by omega)
  unfold F_X8_years_s27 yrS
  rw [if_neg (nI_ge hi hn), F_dA, ob_t, e10, ob_t, c'.1.pp, ob_t, c'.1.nN, ob_t]
  dsimp only
  generalize hd1 : lcg sd = d1
  generalize hd2 : lcg d1 = d2
  generalize hd3 : lcg d2 = d3
  have jj : ∀ (N : Mem) (t' : Sg) (x : Int32), CLa N p g s t' D → ∃ M', F_X8_years_j117_27 0 (nI n) x (nI i) (nI (drN d1 10)) N = some (.inl (x, nI (i + 1), M')) ∧ CLa M' p g s (dayS g (nI (drN d1 10)) t') (D + 1) ∧ QC N M' := by
    intro N t' x cN
    obtain ⟨M4, e4, c4, w4⟩ := cN.pass (d := nI (drN d1 10)) (by omega)
    refine ⟨M4, ?_, c4, w4⟩
    unfold F_X8_years_j117_27
    rw [cN.1.pp, ob_t, Lp_0_5 cN.1.1, ob_t, cN.1.ck, e4, ob_t, nI_1]
  by_cases z1 : gN g = 0
  · rw [if_pos (show nI (gN g) ≤ 0 by rw [z1]; decide), if_pos (Or.inl z1)]
    exact jj M t d1 c'
  · rw [if_neg (nI_nle (n := gN g) (by omega) (by omega)), ob_t, c'.1.nH, ob_t]
    by_cases z2 : gH g = 0
    · rw [if_pos (show nI (gH g) ≤ 0 by rw [z2]; decide), if_pos (Or.inr z2)]
      exact jj M t d1 c'
    · rw [if_neg (nI_nle (n := gH g) (by omega) (by omega)), if_neg (fun z => z.elim z1 z2), F_dA, ob_t, ob_t, c'.1.nN, ob_t, hd2, F_draw8 (show 0 < gN g by omega) (by omega), ob_t, F_dA, ob_t, ob_t, c'.1.nH, ob_t, hd3, F_draw8 (show 0 < gH g by omega) (by omega), ob_t, Lc_0 c'.1.1]
      obtain ⟨M3, e3, c3, w3⟩ := CLa.try (s' := t) (d := nI (drN d1 10)) c' (drN_lt (x := d2) (show 0 < gN g by omega)) (drN_lt (x := d3) (show 0 < gH g by omega))
      obtain ⟨M4, e4, c4, w4⟩ := jj M3 _ d3 c3
      rw [e3, ob_t, e4]
      exact ⟨M4, rfl, c4, w3.trans w4⟩
theorem MLo.dayK {s' : Sg} {D : Int} {o : Int32} (m : MLo M g s s' D o) (ho : o ≠ -1) (hD : D < 100000) : ∃ M', F_X9_dayGoes 67 43 M = some M' ∧ MLo M' g s (dayS g o s') (D + 1) o ∧ QW M M' ∧ mI M' 67 = mI M 67 := by
  obtain ⟨M', e, m', w⟩ := m.2.2.1.dayG hD
  have eo : dmp (mI M 67 46) g s' = o := by unfold dmp; rw [m.2.2.2, if_neg ho]
  rw [eo] at m'
  exact ⟨M', e, m.wb w m', w.qw, w.2.2.2.2.1 67 (by decide)⟩
theorem MLo.year1 {a : Int32 × Sg} {D : Int} {n i : Nat} {o : Int32} (m' : MLo M g s a.2 D o) (h' : mI M 67 55 = a.1) (hD : D < 50000) (hi : i < n) (hn : n < 2 ^ 31) : ∃ M', F_X9_years_s38 67 (nI n) (nI i) M = some (.inl (nI (i + 1), M')) ∧ (∃ o, MLo M' g s (yrS g a).2 (D + 1) o) ∧ mI M' 67 55 = (yrS g a).1 ∧ QW M M' := by
  have g1 := m'.1.gp.1
  have g2 := m'.1.gp.2.1
  obtain ⟨sd, t⟩ := a
  have h' : mI M 67 55 = sd := h'
  obtain ⟨M4, e4, m4, h4, w4⟩ := m'.draw (n := 10) (by omega) (by omega)
  rw [h'] at e4 h4
  have e4' : F_X9_draw 67 10 M = some (nI (drN (lcg sd) 10), M4) := e4
  unfold F_X9_years_s38 yrS
  simp only [if_neg (nI_ge hi hn), Lc_67 m'.1.1, e4', bd2_t]
  generalize hd1 : lcg sd = d1 at *
  generalize hd2 : lcg d1 = d2
  generalize hd3 : lcg d2 = d3
  obtain ⟨e5, m5, w5⟩ := m4.set (j := 46) (v := nI (drN d1 10)) (Or.inl rfl)
  rw [if_pos rfl] at m5
  have h5 : mI (stI M4 67 46 (nI (drN d1 10))) 67 55 = d1 := by rw [mI_steq, upg_ne (by omega)]; exact h4
  have hb := drN_lt (x := d1) (n := 10) (by omega)
  have hne : nI (drN d1 10) ≠ -1 := nI_nm1 (by omega)
  simp only [e5, ob_t, m5.1.nN, m5.1.nH, Lc_67 m5.1.1, nI_1]
  generalize stI M4 67 46 (nI (drN d1 10)) = M5 at *
  by_cases z1 : gN g = 0
  · rw [if_pos (show nI (gN g) ≤ 0 by rw [z1]; decide), if_pos (Or.inl z1)]
    obtain ⟨M6, e6, m6, w6, f6⟩ := m5.dayK hne (by omega)
    rw [e6, ob_t]
    exact ⟨M6, rfl, ⟨_, m6⟩, by rw [f6]; exact h5, (w4.trans w5).trans w6⟩
  · rw [if_neg (nI_nle (n := gN g) (by omega) (by omega))]
    by_cases z2 : gH g = 0
    · rw [if_pos (show nI (gH g) ≤ 0 by rw [z2]; decide), if_pos (Or.inr z2)]
      obtain ⟨M6, e6, m6, w6, f6⟩ := m5.dayK hne (by omega)
      rw [e6, ob_t]
      exact ⟨M6, rfl, ⟨_, m6⟩, by rw [f6]; exact h5, (w4.trans w5).trans w6⟩
    · rw [if_neg (nI_nle (n := gH g) (by omega) (by omega)), if_neg (fun z => z.elim z1 z2)]
      obtain ⟨M7, e7, m7, h7, w7⟩ := m5.happ (by omega) (by omega) ⟨by rw [nI_toInt (by omega)]; omega, by rw [nI_toInt (by omega)]; omega⟩
      rw [h5, hd2, hd3] at m7 h7
      obtain ⟨M6, e6, m6, w6, f6⟩ := m7.dayK hne (by omega)
      rw [e7, ob_t, Lc_67 m7.1.1, e6, ob_t]
      exact ⟨M6, rfl, ⟨_, m6⟩, by rw [f6]; exact h7, ((w4.trans w5).trans w7).trans w6⟩
theorem P_years (c : CQ M p g s) (x1 x2 x3 : Int32) : PR 2 M g s (F_X8_years 0 x1 x2 x3 M) (F_X9_years 67 x1 x2 x3) := by
  have g1 := c.gp.1
  have g2 := c.gp.2.1
  rcases ncase x3 0 2 (by omega) (by omega) with ⟨a3, -, ha3, rfl⟩ | hx
  rotate_left 1
  · refine Or.inr (Or.inl ⟨by decide, ?_, fun M1 m => ?_⟩)
    · unfold CT F_X8_years
      have gx : F_X8_needWhat x3 (2 : Int32) M = _ := c.needW' (b := 2) hx
      simp only [Lc_0 c.1, bdV_l, bdV_r, gx]
    · obtain ⟨e0, m0, -⟩ := m.zero
      have mx : F_X9_isWhat 67 x3 (2 : Int32) _ = _ := m0.isW' (b := 2) hx
      refine MT.mk m (v := 0) ?_
      unfold F_X9_years
      simp only [e0, ob_t, Lc_67 m0.lay, bd2_t, ifn1, mx]
      rfl
  rcases ncase x2 0 40 (by omega) (by omega) with ⟨a2, ha2l, ha2, rfl⟩ | hx
  rotate_left 1
  · refine Or.inr (Or.inr ⟨by decide, ?_, fun M1 m => ?_⟩)
    · unfold CT F_X8_years
      have gc3 : F_X8_needWhat (nI a3) (2 : Int32) M = _ := needW (b := 2) ha3 (by omega)
      have gx : F_X8_needDays x2 (0 : Int32) M = _ := c.needD' (a := 0) hx
      simp only [Lc_0 c.1, bdV_l, bdV_r, gx, gc3]
    · obtain ⟨e0, m0, -⟩ := m.zero
      have gm3 : F_X9_isWhat 67 (nI a3) (2 : Int32) _ = _ := m0.isW (b := 2) ha3 (by omega)
      have mx : F_X9_isDays 67 x2 (0 : Int32) (2 : Int32) _ = _ := m0.isD' (a := 0) (k := 2) hx (by omega) (by omega)
      refine MT.mk m (v := 0) ?_
      unfold F_X9_years
      simp only [e0, ob_t, Lc_67 m0.lay, bd2_t, ifn1, mx, gm3]
      rfl
  refine Or.inl ⟨if a3 = 0 then popS (sBur (itN (fun _ a => yrS g a) (x1, s) a2).2) else if a3 = 1 then sorS g (itN (fun _ a => yrS g a) (x1, s) a2).2 else popS (lodS g (itN (fun _ a => yrS g a) (x1, s) a2).2), ?_, fun M1 m => ?_⟩
  · unfold CR F_X8_years
    have gc3 : F_X8_needWhat (nI a3) (2 : Int32) M = _ := needW (b := 2) ha3 (by omega)
    have gc2 : F_X8_needDays (nI a2) (0 : Int32) M = _ := needD (a := 0) ha2l ha2
    simp only [Lc_0 c.1, bdV_l, ob_t, gc3, gc2]
    obtain ⟨M1, e1, c1, w1⟩ := c.copyL
    simp only [Lp_0_5 c.1, Lp_0_4 c.1, ob_t, Lc_31 c.1, e1]
    obtain ⟨M2, e2, c2, w2⟩ := loop_q (step := fun z : Int32 × Int32 × Mem => F_X8_years_s27 0 (nI a2) z.1 z.2.1 z.2.2) (fun i a M' => (a.1, nI i, M')) (fun _ M' => M') (fun _ a => yrS g a) (x1, s) a2 (fun i M' => CLa M' p g s (itN (fun _ a => yrS g a) (x1, s) i).2 (999 + i) ∧ QC M M') (M := M1) ⟨⟨c1.1, c1.2.1, c1.2.2.mono (by omega)⟩, w1⟩ (by
      rintro i M' hi ⟨c', w'⟩
      obtain ⟨M3, e3, c3, w3⟩ := c'.year1 (by omega) hi (show a2 < 2 ^ 31 by omega)
      exact ⟨M3, e3, ⟨c3.1, c3.2.1, c3.2.2.mono (by omega)⟩, w'.trans w3⟩) (by
      rintro M' ⟨c', w'⟩
      unfold F_X8_years_s27
      simp only [if_pos (nI_le (Nat.le_refl a2) (show a2 < 2 ^ 31 by omega))])
    refine ⟨M2, ?_, w2⟩
    have e3 : loop (fun z : Int32 × Int32 × Mem => F_X8_years_s27 0 (nI a2) z.1 z.2.1 z.2.2) (x1, (0 : Int32), M1) = some M2 := e2
    rw [e3, ob_t]
    simp only [Lp_0_5 c2.1.1, ob_t, c2.bur, F_bitC (bur8 c2.1.gp c2.2.2), Lc_0 c2.1.1, c2.1.sors c2.2.1, c2.1.lod c2.2.1, F_bitC (lod8 c2.1.gp)]
    rw [sw3 ha3]
    exact ap3 (fun v => (some (.inl (v, M2)) : Option ((Int32 × Mem) ⊕ (Nat × Mem))))
  · obtain ⟨e0, m0, w0⟩ := m.zero
    have gm3 : F_X9_isWhat 67 (nI a3) (2 : Int32) _ = _ := m0.isW (b := 2) ha3 (by omega)
    have gm2 : F_X9_isDays 67 (nI a2) (0 : Int32) (2 : Int32) _ = _ := m0.isD (a := 0) ha2l ha2
    unfold MR F_X9_years
    simp only [e0, ob_t, Lc_67 m0.lay, bd2_t, ifn1, gm3, gm2]
    generalize stI M1 67 0 0 = M0 at *
    obtain ⟨M2, e1, m1, w1⟩ := m0.tries
    obtain ⟨f1, m2, w2⟩ := m1.o.set (j := 55) (v := x1) (Or.inr rfl)
    rw [if_neg (by omega)] at m2
    simp only [ob_t, e1, f1]
    obtain ⟨M3, e2, ⟨o, m3⟩, h3, w3⟩ := loop_q (step := fun z : Int32 × Mem => F_X9_years_s38 67 (nI a2) z.1 z.2) (fun i a M' => (nI i, M')) (fun _ M' => M') (fun _ a => yrS g a) (x1, s) a2 (fun i M' => (∃ o, MLo M' g s (itN (fun _ a => yrS g a) (x1, s) i).2 (999 + i) o) ∧ mI M' 67 55 = (itN (fun _ a => yrS g a) (x1, s) i).1 ∧ QW M1 M') (M := stI M2 67 55 x1) ⟨⟨_, m2.mono (by omega)⟩, by rw [mI_steq, upg_eq]; rfl, (w0.trans w1).trans w2⟩ (by
      rintro i M' hi ⟨⟨o, m'⟩, h', w'⟩
      obtain ⟨M3, e3, ⟨o3, m3⟩, h3, w3⟩ := m'.year1 h' (by omega) hi (show a2 < 2 ^ 31 by omega)
      exact ⟨M3, e3, ⟨o3, m3.mono (by omega)⟩, h3, w'.trans w3⟩) (by
      rintro M' ⟨m', w'⟩
      unfold F_X9_years_s38
      simp only [if_pos (nI_le (Nat.le_refl a2) (show a2 < 2 ^ 31 by omega))])
    have e3 : loop (fun z : Int32 × Mem => F_X9_years_s38 67 (nI a2) z.1 z.2) ((0 : Int32), stI M2 67 55 x1) = some M3 := e2
    obtain ⟨e5, m5, w5⟩ := m3.set (j := 46) (v := -1) (Or.inl rfl)
    rw [if_pos rfl] at m5
    have m6 := m5.a
    refine ⟨_, ?_, w3.trans w5, m6.1⟩
    rw [e3, ob_t, e5, ob_t]
    simp only [Lp_67_41 m6.1.lay, ob_t, m6.bur, F_bits, Lc_67 m6.1.lay, m6.2.sors, m6.2.lod]
    rw [sw3 ha3]
    exact ap3 (fun v => some (v, _))
end
