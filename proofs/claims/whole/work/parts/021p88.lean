section
variable {M M' M1 M2 Mx : Mem} {p m : Nat} {g : Pg} {s s' : Sg} {L L' : List Sg} {E E' : List Se} {I I' : Option (Sg × List Sg × List Se)} {R R' : Nat → Int32} {T T' : List Nat} {f f' : Int32}
theorem LF.ref {co : Option ((Int32 × Mem) ⊕ (Nat × Mem))} {mo : Mem → Option (Int32 × Mem)} {hnd : Nat → Mem → Option (Int32 × Mem)} {k : Nat} (hk : k < 3) (hL : Lay M) (hr : Rm M m) (hc : CI Mx p g s L E I R T f) (hm : MI Mx g s L E I R T f) (lx : Mx.1 = M.1) (sx : mS Mx = mS M) (e1 : co = some (.inl (-1, stI Mx 57 k (R k + 1)))) (e2 : ∀ N, MI N g s L E I R T f → ∃ N', ZI N' g s L E I R T f ∧ FM N N' ∧ mo N = (bd2 (F_X9_refuses 67 (nI k) N') fun a b => some (a, b))) : LF m (ckO M 8 0 (bdT co (fun v4 M3 => (sL M3 97 (0 : Int32) (v4.toInt64)).bind fun M5 => some ((0 : Int32), M5)) hnd)) mo := by
  obtain ⟨-, -, c1, -⟩ := C_ref hc hk
  have m1 : MI (stL (stI Mx 57 k (R k + 1)) 97 0 ((-1 : Int32).toInt64)) g s L E I R T f := MI.out (hm.ref hc)
  obtain ⟨N', zN, wN, e3⟩ := e2 _ m1
  obtain ⟨M2, e4, z4, w4⟩ := M_ref zN hk
  exact LF.act hL hr e1 c1 (by show Mx.1.length ≤ _; rw [lx]; omega) (by show mS Mx ≤ _; rw [sx]; omega) (M2 := M2) (by rw [e3, e4, bd2_t]) z4 (wN.trans w4)
theorem CI.c2 (h : CI M p g s L E I R T f) (w : QC M M') : CI M' p g s L E I R T f := h.q w.qw
theorem MI.c2 (h : MI M g s L E I R T f) (w : QC M M') : MI M' g s L E I R T f := h.q w.qw (by rw [w.m.1]; exact h.1.2)
theorem ZI.go {u h : Nat} (z : ZI M g s L E I R T f) (hu : u < gN g) (hh : h < gH g) : ∃ M', F_X9_wouldGo 67 0 (nI u) (nI h) M = some (goI g s u h (dampS g s), M') ∧ ZI M' g s L E I R T f ∧ FM M M' := by
  obtain ⟨M', e, w⟩ := z.z.b.go hu hh (Or.inl z.1.1.2)
  have eo : dmp (mI M 67 46) g s = dampS g s := by unfold dmp; rw [if_pos z.1.1.2]
  rw [eo] at e
  exact ⟨M', e, z.wr w (by decide), w.fm (by decide)⟩
/-- the reference sets a place of what is now -/
theorem ZI.set {c k : Nat} {v : Int32} (z : ZI M g s L E I R T f) (hk : c + k < 43) (hr : RwV (upg (mI M 83) (0 + c + k) v) 0 g s') (hd : GdS 999 g s') : sI M 100 83 (nI c + nI k) v = some (stI M 83 (0 + c + k) v) ∧ ZI (stI M 83 (0 + c + k) v) g s' L E I R T f ∧ FM M (stI M 83 (0 + c + k) v) := by
  have w : WB 0 M (stI M 83 (0 + c + k) v) := WB.rfl'.st (by omega) (by omega)
  obtain ⟨a, b⟩ := z.now w (s' := s') (by rw [mI_steq]; exact hr) hd
  refine ⟨?_, a, b⟩
  rw [nI_add, Nat.zero_add]; exact Lw_83 z.lay (by omega)
theorem RwV.who {h : Nat} {v : Int32} {F : Nat → Int32} (r : RwV F 0 g s) (hg : GdP g) (hh : h < gH g) : RwV (upg F (0 + 19 + h) v) 0 g (sDay s, sWet s, sBur s, sSiz s, sWor s, upg (sWho s) h v, sHee s, sSor s) := by
  have g1 := hg.1
  have g2 := hg.2.1
  obtain ⟨r1, r2, r3, r4, r5⟩ := r
  refine ⟨?_, ?_, ?_, fun k hk => ⟨?_, ?_, ?_⟩, fun k hk => ⟨?_, ?_⟩⟩
  · rw [upg_ne (by omega)]; exact r1
  · rw [upg_ne (by omega)]; exact r2
  · rw [upg_ne (by omega)]; exact r3
  · rw [upg_ne (by omega)]; exact (r4 k hk).1
  · rw [upg_ne (by omega)]; exact (r4 k hk).2.1
  · show _ = upg (sWho s) h v k
    by_cases e : k = h
    · subst e; rw [upg_eq, upg_eq]
    · rw [upg_ne (by omega), upg_ne e]; exact (r4 k hk).2.2
  · rw [upg_ne (by omega)]; exact (r5 k hk).1
  · rw [upg_ne (by omega)]; exact (r5 k hk).2
theorem A_putIn (hc : CI M p g s L E I R T f) (hm : MI M g s L E I R T f) (hr : Rm M m) (hm5 : m < 512) (x1 x2 : Int32) : LF m (F_L_putIn 0 x1 x2 97 M) (F_X9_putIn 67 x1 x2) := by
  have c := hc.cq hr (by omega)
  have g1 := c.gp.1
  have g2 := c.gp.2.1
  obtain ⟨k1, k2⟩ := keep_room hr hm5
  unfold F_L_putIn
  rcases pcase g x1 g2 with ⟨a1, ha1, rfl⟩ | hx
  rotate_left 1
  · refine LF.thr (k := 1) (x := 1) hc hm hr ?_ (fun M1 m => ?_) (by omega) (fun N => rfl)
    · unfold CT F_X8_putIn
      have gx := c.needP' hx
      simp only [Lc_0 c.1, bdV_l, bdV_r, gx]
    · obtain ⟨e0, m0, -⟩ := m.zero
      have mx := m0.isP' hx
      refine MT.mk m (v := 0) ?_
      unfold F_X9_putIn
      simp only [e0, ob_t, Lc_67 m0.lay, bd2_t, ifn1, mx]
      rfl
  rcases hcase g x2 g1 with ⟨a2, ha2, rfl⟩ | hx
  rotate_left 1
  · refine LF.thr (k := 1) (x := 1) hc hm hr ?_ (fun M1 m => ?_) (by omega) (fun N => rfl)
    · unfold CT F_X8_putIn
      have gc1 := c.needP ha1
      have gx := c.needH' hx
      simp only [Lc_0 c.1, bdV_l, bdV_r, gx, gc1]
    · obtain ⟨e0, m0, -⟩ := m.zero
      have gm1 := m0.isP ha1
      have mx := m0.isH' hx
      refine MT.mk m (v := 0) ?_
      unfold F_X9_putIn
      simp only [e0, ob_t, Lc_67 m0.lay, bd2_t, ifn1, mx, gm1]
      rfl
  have pre : F_X8_putIn 0 (nI a1) (nI a2) M = (if wheS g s a1 = -1 then (if sWho s a2 = -1 then (bd2 (F_X8_entersNow 0 (nI a1) (nI a2) M) fun v34 M33 => if v34 = 0 then ckO M33 8 0 (bd2 (F_X8_refuseAct 0 M33) fun v58 M57 => some (.inl (v58, M57))) else (gP M33 8 0 6).bind fun v36 => (gP M33 8 0 4).bind fun v38 => ckO M33 0 v36 ((F_X0_keep v36 v38 M33).bind fun M42 => (gP M42 8 0 4).bind fun v44 => ckO M42 6 v44 ((F_X6_settle v44 (nI a1) (nI a2) M42).bind fun M48 => (gP M48 8 0 4).bind fun v50 => ckO M48 6 v50 ((F_X6_tight v50 (nI a1) (nI a2) M48).bind fun v54 => some (.inl (v54, M48)))))) else (some (.inl (-1, stI M 57 1 (R 1 + 1))))) else some (.inl (-1, stI M 57 1 (R 1 + 1)))) := by
    unfold F_X8_putIn
    rw [Lc_0 c.1, c.needP ha1, bdV_l, Lc_0 c.1, c.needH ha2, bdV_l, Lp_0_4 c.1, ob_t, Lp_24_7 c.1, ob_t, c.whe ha1, ob_t, ob_t, Lp_24_5 c.1, ob_t, c.who ha2, ob_t]
    repeat rw [Lc_0 c.1]
    rw [ref1 hc, bd2_t]
  have mpre : ∀ N, MI N g s L E I R T f → F_X9_putIn 67 (nI a1) (nI a2) N = (if wheS g s a1 = -1 then (if sWho s a2 = -1 then (bd2 (F_X9_wouldGo 67 0 (nI a1) (nI a2) (stI N 67 0 0)) fun v33 M32 => if v33 = 0 then ckO M32 9 67 (bd2 (F_X9_refuses 67 1 M32) fun v49 M48 => some (v49, M48)) else ckO M32 9 67 ((F_X9_keeps 67 M32).bind fun M37 => (gP M37 9 67 41).bind fun v39 => (sI M37 100 v39 ((19 : Int32) + nI a2) (nI a1)).bind fun M41 => ckO M41 9 67 ((F_X9_tightOf 67 0 (nI a1) (nI a2) M41).bind fun v45 => some (v45, M41)))) else (bd2 (F_X9_refuses 67 1 (stI N 67 0 0)) fun a b => some (a, b))) else (bd2 (F_X9_refuses 67 1 (stI N 67 0 0)) fun a b => some (a, b))) := by
    intro N hN
    obtain ⟨e0, zN, -⟩ := hN.zero
    unfold F_X9_putIn
    rw [e0, ob_t, Lc_67 zN.lay, zN.z.isP ha1, bd2_t, if_neg (by decide), Lc_67 zN.lay, zN.z.isH ha2, bd2_t, if_neg (by decide), Lc_67 zN.lay, zN.z.b.hof (u := a1) rfl, ob_t, Lp_67_41 zN.lay, ob_t, zN.z.who ha2, ob_t]
    repeat rw [Lc_67 zN.lay]
  by_cases z1 : wheS g s a1 = -1
  rotate_left 1
  · rw [if_neg z1] at pre
    refine LF.ref (k := 1) (by omega) c.1 hr hc hm rfl rfl pre (fun N hN => ?_)
    obtain ⟨e0, zN, wN⟩ := hN.zero
    exact ⟨_, zN, wN, by rw [mpre N hN, if_neg z1]; rfl⟩
  rw [if_pos z1] at pre
  by_cases z2 : sWho s a2 = -1
  rotate_left 1
  · rw [if_neg z2] at pre
    refine LF.ref (k := 1) (by omega) c.1 hr hc hm rfl rfl pre (fun N hN => ?_)
    obtain ⟨e0, zN, wN⟩ := hN.zero
    exact ⟨_, zN, wN, by rw [mpre N hN, if_pos z1, if_neg z2]; rfl⟩
  rw [if_pos z2] at pre
  obtain ⟨Mx, ex, wx⟩ := c.go ha1 ha2
  have hcx := hc.c2 wx
  have hmx := hm.c2 wx
  have cx := c.c wx
  rw [ex, bd2_t] at pre
  by_cases z3 : goI g s a1 a2 (dampS g s) = 0
  · rw [if_pos z3, Lc_0 hcx.1, ref1 hcx, bd2_t] at pre
    refine LF.ref (k := 1) (by omega) c.1 hr hcx hmx wx.1 wx.2.2.1 pre (fun N hN => ?_)
    obtain ⟨e0, zN, wN⟩ := hN.zero
    obtain ⟨N2, e2, z2', w2⟩ := zN.go ha1 ha2
    refine ⟨N2, z2', wN.trans w2, ?_⟩
    rw [mpre N hN, if_pos z1, if_pos z2, e2, bd2_t, if_pos z3, Lc_67 z2'.lay]; rfl
  · rw [if_neg z3, Lp_0_6 hcx.1, ob_t, Lp_0_4 hcx.1, ob_t, Lc_38 hcx.1] at pre
    obtain ⟨M3, e3, c3, w3, l3, s3⟩ := C_keep hcx (by rw [wx.1]; exact k1) (by rw [wx.2.2.1]; exact k2)
    have hb : bitI (sBur s) a2 = false := by
      rcases goI_01 (g := g) (s := s) (p := a1) (h := a2) (d := dampS g s) with ⟨-, z⟩ | ⟨z, -⟩
      · have := z.1; unfold burS at this; simpa using this
      · exact absurd z z3
    have hd := hc.2.2.2.2.2.2.1.put c.gp ha2 ha1 (fun k hk _ => whe_none z1 c.gp k hk) hb
    obtain ⟨M4, e4, s4, w4⟩ := F_settle c3.2.2.2.2.2.1 c.gp ha2 ha1 z2 (whe_none z1 c.gp)
    have s4 : StV M4 24 g (putS s a2 a1) := s4
    have c4 := c3.now (s' := putS s a2 a1) w4 (by decide) s4 hd
    rw [e3, ob_t, Lp_0_4 c3.1, ob_t, Lc_24 c3.1, e4, ob_t, Lp_0_4 c4.1, ob_t, Lc_24 c4.1, F_tight s4 c.gp ha1 ha2, ob_t] at pre
    have m4 : MI (stL M4 97 0 ((tightS (putS s a2 a1) a1 a2).toInt64)) g s L E I R T f := MI.out (hmx.fr c4.1 fun k a b => (wr_mI w4 (by simp; omega)).trans (w3 k a (by omega)))
    obtain ⟨e0, zN, wN⟩ := m4.zero
    obtain ⟨N2, f2, y2, v2⟩ := zN.go ha1 ha2
    obtain ⟨N3, f3, y3, v3⟩ := M_keep y2
    obtain ⟨f4, y4, v4⟩ := y3.set (c := 19) (k := a2) (v := nI a1) (s' := putS s a2 a1) (by omega) (y3.1.1.1.rw.who c.gp ha2) hd
    have f4' : sI N3 100 83 ((19 : Int32) + nI a2) (nI a1) = some (stI N3 83 (0 + 19 + a2) (nI a1)) := f4
    refine LF.act c.1 hr pre c4 (by rw [w4.1]; rw [wx.1] at l3; omega) (by rw [w4.2.2.2.1]; rw [wx.2.2.1] at s3; omega) ?_ y4 (((wN.trans v2).trans v3).trans v4)
    rw [mpre _ m4, if_pos z1, if_pos z2, f2, bd2_t, if_neg z3, Lc_67 y2.lay, f3, ob_t, Lp_67_41 y3.lay, ob_t, f4', ob_t, Lc_67 y4.lay, y4.z.b.tig ha1 ha2, ob_t]
theorem A_out (hc : CI M p g s L E I R T f) (hm : MI M g s L E I R T f) (hr : Rm M m) (hm5 : m < 512) (x1 : Int32) : LF m (F_L_out 0 x1 97 M) (F_X9_out 67 x1) := by
  have c := hc.cq hr (by omega)
  have g1 := c.gp.1
  have g2 := c.gp.2.1
  obtain ⟨k1, k2⟩ := keep_room hr hm5
  unfold F_L_out
  rcases pcase g x1 g2 with ⟨a1, ha1, rfl⟩ | hx
  rotate_left 1
  · refine LF.thr (k := 1) (x := 1) hc hm hr ?_ (fun M1 m => ?_) (by omega) (fun N => rfl)
    · unfold CT F_X8_out
      have gx := c.needP' hx
      simp only [Lc_0 c.1, bdV_l, bdV_r, gx]
    · obtain ⟨e0, m0, -⟩ := m.zero
      have mx := m0.isP' hx
      refine MT.mk m (v := 0) ?_
      unfold F_X9_out
      simp only [e0, ob_t, Lc_67 m0.lay, bd2_t, ifn1, mx]
      rfl
  have pre : F_X8_out 0 (nI a1) M = (if wheS g s a1 = -1 then some (.inl (-1, stI M 57 1 (R 1 + 1))) else ((F_X0_keep 38 24 M).bind fun M18 => (gP M18 8 0 4).bind fun v20 => ckO M18 6 v20 ((F_X6_leave v20 (nI a1) M18).bind fun M24 => some (.inl (wheS g s a1, M24))))) := by
    unfold F_X8_out
    rw [Lc_0 c.1, c.needP ha1, bdV_l, Lp_0_4 c.1, ob_t, Lp_24_7 c.1, ob_t, c.whe ha1, ob_t, Lc_0 c.1, ref1 hc, bd2_t, Lp_0_6 c.1, ob_t, ob_t, Lc_38 c.1]
  have mpre : ∀ N, MI N g s L E I R T f → F_X9_out 67 (nI a1) N = (if wheS g s a1 = -1 then (bd2 (F_X9_refuses 67 1 (stI N 67 0 0)) fun a b => some (a, b)) else ((F_X9_keeps 67 (stI N 67 0 0)).bind fun M14 => (gP M14 9 67 41).bind fun v16 => (sI M14 100 v16 ((19 : Int32) + wheS g s a1) (-1 : Int32)).bind fun M18 => some (wheS g s a1, M18))) := by
    intro N hN
    obtain ⟨e0, zN, -⟩ := hN.zero
    unfold F_X9_out
    rw [e0, ob_t, Lc_67 zN.lay, zN.z.isP ha1, bd2_t, if_neg (by decide), Lc_67 zN.lay, zN.z.b.hof (u := a1) rfl, ob_t, Lc_67 zN.lay, Lc_67 zN.lay]
  rcases whe_case (u := a1) c.gp c.gd with ⟨z1, -⟩ | ⟨j, hj, z1, z2⟩
  · rw [if_pos z1] at pre
    refine LF.ref (k := 1) (by omega) c.1 hr hc hm rfl rfl pre (fun N hN => ?_)
    obtain ⟨e0, zN, wN⟩ := hN.zero
    exact ⟨_, zN, wN, by rw [mpre N hN, if_pos z1]; rfl⟩
  · have n1 : ¬ wheS g s a1 = -1 := by rw [z1]; exact nI_nm1 (by omega)
    obtain ⟨M3, e3, c3, w3, l3, s3⟩ := C_keep hc k1 k2
    obtain ⟨M4, e4, s4, w4⟩ := F_leave (p := 0) c3.2.2.2.2.2.1 c.gp hj ha1 z2 (fun k hk e => by
      have := (whe_iff c.gp c.gd hk (by omega)).mpr e
      rw [z1, nI_eq (by omega) (by omega)] at this
      exact this.symm)
    have hd : GdS 999 g (outS s j) := c.gd.out
    have c4 := c3.now (s' := outS s j) w4 (by decide) s4 hd
    rw [if_neg n1, e3, ob_t, Lp_0_4 c3.1, ob_t, Lc_24 c3.1, e4, ob_t] at pre
    have m4 : MI (stL M4 97 0 ((wheS g s a1).toInt64)) g s L E I R T f := MI.out (hm.fr c4.1 fun k a b => (wr_mI w4 (by simp; omega)).trans (w3 k a (by omega)))
    obtain ⟨e0, zN, wN⟩ := m4.zero
    obtain ⟨N3, f3, y3, v3⟩ := M_keep zN
    obtain ⟨f4, y4, v4⟩ := y3.set (c := 19) (k := j) (v := -1) (s' := outS s j) (by omega) (y3.1.1.1.rw.who c.gp hj) hd
    have f4' : sI N3 100 83 ((19 : Int32) + nI j) (-1) = some (stI N3 83 (0 + 19 + j) (-1)) := f4
    refine LF.act c.1 hr pre c4 (by rw [w4.1]; omega) (by rw [w4.2.2.2.1]; omega) ?_ y4 ((wN.trans v3).trans v4)
    rw [mpre _ m4, if_neg n1, f3, ob_t, Lp_67_41 y3.lay, ob_t]
    have ez : wheS g s a1 = nI j := z1
    rw [ez, f4', ob_t]

/-- a house is stuffed -/
def stuS (s : Sg) (h : Nat) (v : Int32) : Sg := (sDay s, sWet s, sBur s, upg (sSiz s) h v, sWor s, sWho s, sHee s, sSor s)
theorem GdS.stu {h : Nat} {v : Int32} (hd : GdS 999 g s) (hv : bnd v 1 60) : GdS 999 g (stuS s h v) := by
  obtain ⟨d1, d2, d3, d4, d5, d6, d7⟩ := hd
  refine ⟨d1, d2, fun k hk => ⟨?_, (d3 k hk).2⟩, d4, d5, d6, d7⟩
  show bnd (upg (sSiz s) h v k) 1 60
  unfold upg
  split
  · exact hv
  · exact (d3 k hk).1
theorem RwV.siz {h : Nat} {v : Int32} {F : Nat → Int32} (r : RwV F 0 g s) (hg : GdP g) (hh : h < gH g) : RwV (upg F (0 + 3 + h) v) 0 g (stuS s h v) := by
  have g1 := hg.1
  have g2 := hg.2.1
  obtain ⟨r1, r2, r3, r4, r5⟩ := r
  refine ⟨?_, ?_, ?_, fun k hk => ⟨?_, ?_, ?_⟩, fun k hk => ⟨?_, ?_⟩⟩
  · rw [upg_ne (by omega)]; exact r1
  · rw [upg_ne (by omega)]; exact r2
  · rw [upg_ne (by omega)]; exact r3
  · show _ = upg (sSiz s) h v k
    by_cases e : k = h
    · subst e; rw [upg_eq, upg_eq]
    · rw [upg_ne (by omega), upg_ne e]; exact (r4 k hk).1
  · rw [upg_ne (by omega)]; exact (r4 k hk).2.1
  · rw [upg_ne (by omega)]; exact (r4 k hk).2.2
  · rw [upg_ne (by omega)]; exact (r5 k hk).1
  · rw [upg_ne (by omega)]; exact (r5 k hk).2
theorem StV.stu {a h : Nat} {v : Int32} (hs : StV M a g s) (hg : GdP g) (hh : h < gH g) : StV (stI M (a + 1) h v) a g (stuS s h v) := by
  have w : Wr [a + 1] M (stI M (a + 1) h v) := Wr.rfl'.st (by simp)
  refine ⟨hs.1.wr w, ?_, ?_, ?_, fun k hk => ⟨?_, ?_, ?_⟩, fun k hk => ?_⟩
  · rw [mI_stne (by omega)]; exact hs.2.1
  · rw [mI_stne (by omega)]; exact hs.2.2.1
  · rw [mI_stne (by omega)]; exact hs.2.2.2.1
  · rw [mI_steq]
    show upg _ h v k = upg (sSiz s) h v k
    unfold upg; rw [(hs.2.2.2.2.1 k hk).1]
  · rw [mI_stne (by omega)]; exact (hs.2.2.2.2.1 k hk).2.1
  · rw [mI_stne (by omega)]; exact (hs.2.2.2.2.1 k hk).2.2
  · rw [mI_stne (by omega), mI_stne (by omega), mI_stne (by omega)]; exact hs.2.2.2.2.2 k hk
theorem A_stuff (hc : CI M p g s L E I R T f) (hm : MI M g s L E I R T f) (hr : Rm M m) (hm5 : m < 512) (x1 x2 : Int32) : LF m (F_L_stuff 0 x1 x2 97 M) (F_X9_stuff 67 x1 x2) := by
  have c := hc.cq hr (by omega)
  have g1 := c.gp.1
  have g2 := c.gp.2.1
  obtain ⟨k1, k2⟩ := keep_room hr hm5
  unfold F_L_stuff
  rcases hcase g x1 g1 with ⟨a1, ha1, rfl⟩ | hx
  rotate_left 1
  · refine LF.thr (k := 1) (x := 1) hc hm hr ?_ (fun M1 m => ?_) (by omega) (fun N => rfl)
    · unfold CT F_X8_stuff
      have gx := c.needH' hx
      simp only [Lc_0 c.1, bdV_l, bdV_r, gx]
    · obtain ⟨e0, m0, -⟩ := m.zero
      have mx := m0.isH' hx
      refine MT.mk m (v := 0) ?_
      unfold F_X9_stuff
      simp only [e0, ob_t, Lc_67 m0.lay, bd2_t, ifn1, mx]
      rfl
  have pre : F_X8_stuff 0 (nI a1) x2 M = (if sWho s a1 = -1 then (if x2 < (1 : Int32) then some (.inl (-1, stI M 57 1 (R 1 + 1))) else if x2 ≤ (20 : Int32) then ((F_X0_keep 38 24 M).bind fun M28 => (gP M28 8 0 4).bind fun v30 => (gP M28 6 v30 3).bind fun v32 => (gP M28 8 0 4).bind fun v34 => (gP M28 6 v34 3).bind fun v36 => (aI M28 100 v36 (nI a1)).bind fun v38 => (sI M28 100 v32 (nI a1) (mxI (1 : Int32) (v38 - x2))).bind fun M40 => (gP M40 8 0 4).bind fun v42 => (gP M40 6 v42 3).bind fun v44 => (aI M40 100 v44 (nI a1)).bind fun v46 => some (.inl (v46, M40))) else some (.inl (-1, stI M 57 1 (R 1 + 1)))) else some (.inl (-1, stI M 57 1 (R 1 + 1)))) := by
    unfold F_X8_stuff
    rw [Lc_0 c.1, c.needH ha1, bdV_l, Lp_0_4 c.1, ob_t, Lp_24_5 c.1, ob_t, c.who ha1, ob_t]
    repeat rw [Lc_0 c.1]
    rw [ref1 hc, bd2_t, Lp_0_6 c.1, ob_t, ob_t, Lc_38 c.1]
  have mpre : ∀ N, MI N g s L E I R T f → F_X9_stuff 67 (nI a1) x2 N = (if sWho s a1 = -1 then (F_X9_within x2 (1 : Int32) (20 : Int32) (stI N 67 0 0)).bind fun v18 => (if v18 = 0 then (bd2 (F_X9_refuses 67 1 (stI N 67 0 0)) fun a b => some (a, b)) else ((F_X9_keeps 67 (stI N 67 0 0)).bind fun M22 => (gP M22 9 67 41).bind fun v24 => (gP M22 9 67 41).bind fun v26 => (aI M22 100 v26 ((3 : Int32) + nI a1)).bind fun v28 => (F_X9_bounded (v28 - x2) (1 : Int32) (99999 : Int32) M22).bind fun v31 => (sI M22 100 v24 ((3 : Int32) + nI a1) v31).bind fun M32 => (gP M32 9 67 41).bind fun v34 => (aI M32 100 v34 ((3 : Int32) + nI a1)).bind fun v36 => some (v36, M32))) else (bd2 (F_X9_refuses 67 1 (stI N 67 0 0)) fun a b => some (a, b))) := by
    intro N hN
    obtain ⟨e0, zN, -⟩ := hN.zero
    unfold F_X9_stuff
    simp only [e0, ob_t, Lc_67 zN.lay, zN.z.isH ha1, bd2_t, ifn1, Lp_67_41 zN.lay, zN.z.who ha1]
  by_cases z1 : sWho s a1 = -1
  rotate_left 1
  · rw [if_neg z1] at pre
    refine LF.ref (k := 1) (by omega) c.1 hr hc hm rfl rfl pre (fun N hN => ?_)
    obtain ⟨e0, zN, wN⟩ := hN.zero
    exact ⟨_, zN, wN, by rw [mpre N hN, if_neg z1]; rfl⟩
  rw [if_pos z1] at pre
  rcases ncase x2 1 20 (by omega) (by omega) with ⟨n, n1, n2, rfl⟩ | hx
  rotate_left 1
  · have pre2 : F_X8_stuff 0 (nI a1) x2 M = some (.inl (-1, stI M 57 1 (R 1 + 1))) := by
      rw [pre]
      by_cases h0 : x2 < (1 : Int32)
      · rw [if_pos h0]
      · rw [if_neg h0, if_neg (fun z : x2 ≤ (20 : Int32) => le_nlt.mpr (hx.resolve_left h0) z)]
    refine LF.ref (k := 1) (by omega) c.1 hr hc hm rfl rfl pre2 (fun N hN => ?_)
    obtain ⟨e0, zN, wN⟩ := hN.zero
    have ew : F_X9_within x2 1 20 (stI N 67 0 0) = some 0 := F_within' (a := 1) (b := 20) hx
    exact ⟨_, zN, wN, by rw [mpre N hN, if_pos z1, ew, ob_t, if_pos rfl]; rfl⟩
  · rw [if_neg (show ¬ nI n < (1 : Int32) from nI_nlt (b := 1) n1 (by omega)), if_pos (show nI n ≤ (20 : Int32) from nI_le (b := 20) n2 (by omega))] at pre
    obtain ⟨M3, e3, c3, w3, l3, s3⟩ := C_keep hc k1 k2
    have sb := (c.gd.2.2.1 a1 ha1).1
    have eN : (nI n).toInt = n := nI_toInt (by omega)
    have et : (sSiz s a1 - nI n).toInt = (sSiz s a1).toInt - n := by unfold bnd at sb; rw [ti_sub (by omega) (by omega), eN]
    have hv : bnd (mxI 1 (sSiz s a1 - nI n)) 1 60 := by
      unfold bnd at *
      rw [mxI_toInt, et, tn1]; omega
    have eb : (if (1 : Int32) ≤ sSiz s a1 - nI n then (if sSiz s a1 - nI n ≤ 99999 then sSiz s a1 - nI n else 99999) else 1) = mxI 1 (sSiz s a1 - nI n) := by
      unfold bnd at sb
      have e99 : (99999 : Int32).toInt = 99999 := rfl
      rw [ti_eq, mxI_toInt, tn1, et]
      repeat' split
      all_goals simp only [ti_le, tn1, et, e99] at *
      all_goals omega
    have hd := c.gd.stu (h := a1) hv
    have w4 : Wr [25] M3 (stI M3 25 a1 (mxI 1 (sSiz s a1 - nI n))) := Wr.rfl'.st (by simp)
    have s4 : StV (stI M3 25 a1 (mxI 1 (sSiz s a1 - nI n))) 24 g (stuS s a1 (mxI 1 (sSiz s a1 - nI n))) := c3.2.2.2.2.2.1.stu c.gp ha1
    have c4 := c3.now w4 (by decide) s4 hd
    have q1 : aI M3 100 25 (nI a1) = some (sSiz s a1) := c3.2.2.2.2.2.1.sz c.gp ha1
    have q2 : sI M3 100 25 (nI a1) (mxI 1 (sSiz s a1 - nI n)) = some (stI M3 25 a1 (mxI 1 (sSiz s a1 - nI n))) := Lw_25 c3.1 (by omega)
    have q3 : aI (stI M3 25 a1 (mxI 1 (sSiz s a1 - nI n))) 100 25 (nI a1) = some (mxI 1 (sSiz s a1 - nI n)) := by
      rw [La_25 c4.1 (by omega), mI_steq, upg_eq]
    rw [e3, ob_t, Lp_0_4 c3.1, ob_t, Lp_24_3 c3.1, ob_t, ob_t, Lp_24_3 c3.1, ob_t, q1, ob_t, q2, ob_t, Lp_0_4 c4.1, ob_t, Lp_24_3 c4.1, ob_t, q3, ob_t] at pre
    have m4 : MI (stL (stI M3 25 a1 (mxI 1 (sSiz s a1 - nI n))) 97 0 ((mxI 1 (sSiz s a1 - nI n)).toInt64)) g s L E I R T f := MI.out (hm.fr c4.1 fun k a b => (wr_mI w4 (by simp; omega)).trans (w3 k a (by omega)))
    obtain ⟨e0, zN, wN⟩ := m4.zero
    obtain ⟨N3, f3, y3, v3⟩ := M_keep zN
    obtain ⟨f4, y4, v4⟩ := y3.set (c := 3) (k := a1) (v := mxI 1 (sSiz s a1 - nI n)) (s' := stuS s a1 (mxI 1 (sSiz s a1 - nI n))) (by omega) (y3.1.1.1.rw.siz c.gp ha1) hd
    have f4' : sI N3 100 83 ((3 : Int32) + nI a1) (mxI 1 (sSiz s a1 - nI n)) = some (stI N3 83 (0 + 3 + a1) (mxI 1 (sSiz s a1 - nI n))) := f4
    refine LF.act c.1 hr pre c4 (by show M3.1.length ≤ _; omega) (by show mS M3 ≤ _; omega) ?_ y4 ((wN.trans v3).trans v4)
    have ew : ∀ N : Mem, F_X9_within (nI n) 1 20 N = some 1 := fun N => F_within (x := 0) (a := 1) (b := 20) (by omega) (by omega) n1 n2
    have q5 : aI (stI N3 83 (0 + 3 + a1) (mxI 1 (sSiz s a1 - nI n))) 100 83 (3 + nI a1) = some (mxI 1 (sSiz s a1 - nI n)) := by
      rw [y4.z.siz ha1]; show some (upg (sSiz s) a1 _ a1) = _; rw [upg_eq]
    rw [mpre _ m4, if_pos z1, ew, ob_t, if_neg (by decide), f3, ob_t, Lp_67_41 y3.lay, ob_t, ob_t, y3.z.siz ha1, ob_t, F_bounded, ob_t, eb, f4', ob_t, Lp_67_41 y4.lay, ob_t, q5, ob_t]
end
