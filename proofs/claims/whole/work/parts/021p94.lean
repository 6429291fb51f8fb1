section
variable {M M' M1 M2 Mx : Mem} {p m : Nat} {g : Pg} {s s' : Sg} {L L' : List Sg} {E E' : List Se} {I I' : Option (Sg × List Sg × List Se)} {R R' : Nat → Int32} {T T' : List Nat} {f f' : Int32}
theorem LFb.act {co : Option ((Int32 × Mem) ⊕ (Nat × Mem))} {mo : Mem → Option (Int32 × Mem)} {v : Int32} {x : Int64} {hnd : Nat → Mem → Option (Int32 × Mem)} (hv : (v = 0 ∧ x = 0) ∨ (v = 1 ∧ x = 1)) (hL : Lay M) (hr : Rm M m) (e1 : co = some (.inl (v, M1))) (c1 : CI M1 p g s' L' E' I' R' T' f') (h1 : M1.1.length ≤ M.1.length + 900) (h2 : mS M1 ≤ mS M + 11000) (e2 : mo (stL M1 97 0 x) = some (v, M2)) (z2 : ZI M2 g s' L' E' I' R' T' f') (w : FM (stL M1 97 0 x) M2) : LFb m (ckO M 8 0 (bdT co (fun v4 M3 => if v4 = 0 then (sL M3 97 (0 : Int32) (0 : Int64)).bind fun M6 => some ((0 : Int32), M6) else (sL M3 97 (0 : Int32) (1 : Int64)).bind fun M8 => some ((0 : Int32), M8)) hnd)) mo := by
  refine ⟨0, stL M1 97 0 x, v, M2, ?_, e2, c1.out.1, z2.lay, z2.2, fun _ => ?_, fin (M := M) (M1 := stL M1 97 0 x) hr c1.out z2.1 w h1 h2⟩
  · rw [Lc_0 hL, e1, bdT_l]
    rcases hv with ⟨rfl, rfl⟩ | ⟨rfl, rfl⟩
    · rw [if_pos rfl, outL c1.1, ob_t]
    · rw [if_neg (by decide), outL c1.1, ob_t]
  · rw [w.2.2.2.1 97 (by omega), mL_stL, if_pos ⟨rfl, rfl⟩]
    exact hv
theorem LFb.thr {co : Option ((Int32 × Mem) ⊕ (Nat × Mem))} {mo : Mem → Option (Int32 × Mem)} {hnd : Nat → Mem → Option (Int32 × Mem)} {vv : Int32 → Mem → Option (Int32 × Mem)} (hc : CI M p g s L E I R T f) (hm : MI M g s L E I R T f) (hr : Rm M m) (h1 : CT M co 1) (h2 : ∀ M1, MQu M1 g s → MT M1 g s (mo M1) 1) (hh : ∀ N, hnd 1 N = some (nI 1, N)) : LFb m (ckO M 8 0 (bdT co vv hnd)) mo := by
  have c1 : CI (nwM M (200, 0) 6) p g s L E I R T f := hc.nw
  have m1 : MI (nwM M (200, 0) 6) g s L E I R T f := hm.nw hc.1
  obtain ⟨v, M2, e2, w2, z2, t2⟩ := h2 _ m1.1
  refine ⟨nI 1, nwM M (200, 0) 6, v, M2, ?_, e2, c1.1, z2.lay, t2, fun z => absurd z (by decide), ?_⟩
  · unfold CT at h1
    rw [Lc_0 hc.1, h1, bdT_r, hh]
  · refine ⟨p, g, s, L, E, I, R, T, f, c1.q w2, m1.q w2 z2.2, ?_⟩
    unfold Rm at *
    rw [w2.1, w2.2.2.1, len_nw, mS_nw]
    omega
theorem LFb.ref {co : Option ((Int32 × Mem) ⊕ (Nat × Mem))} {mo : Mem → Option (Int32 × Mem)} {hnd : Nat → Mem → Option (Int32 × Mem)} (hL : Lay M) (hr : Rm M m) (hc : CI Mx p g s L E I R T f) (hm : MI Mx g s L E I R T f) (lx : Mx.1 = M.1) (sx : mS Mx = mS M) (e1 : co = some (.inl (0, stI Mx 57 1 (R 1 + 1)))) (e2 : ∀ N, MI N g s L E I R T f → ∃ N', ZI N' g s L E I R T f ∧ FM N N' ∧ mo N = (bd2 (F_X9_refuses 67 1 N') fun v38 M37 => if v38 ≤ 0 then some ((0 : Int32), M37) else some ((1 : Int32), M37))) : LFb m (ckO M 8 0 (bdT co (fun v4 M3 => if v4 = 0 then (sL M3 97 (0 : Int32) (0 : Int64)).bind fun M6 => some ((0 : Int32), M6) else (sL M3 97 (0 : Int32) (1 : Int64)).bind fun M8 => some ((0 : Int32), M8)) hnd)) mo := by
  obtain ⟨-, -, c1, -⟩ := C_ref hc (k := 1) (by omega)
  have m1 : MI (stL (stI Mx 57 1 (R 1 + 1)) 97 0 0) g s L E I R T f := MI.out (hm.ref hc)
  obtain ⟨N', zN, wN, e3⟩ := e2 _ m1
  obtain ⟨M2, e4, z4, w4⟩ := M_ref1 zN
  exact LFb.act (Or.inl ⟨rfl, rfl⟩) hL hr e1 c1 (by show Mx.1.length ≤ _; rw [lx]; omega) (by show mS Mx ≤ _; rw [sx]; omega) (M2 := M2) (by rw [e3, e4, bd2_t, if_pos (by decide)]) z4 (wN.trans w4)
noncomputable def mvI (g : Pg) (s : Sg) (u : Nat) (x : Int32) : Int32 := if x = -1 then 1 else goI g s u x.toNatClampNeg (dampS g s)
theorem CQ.may {u o : Nat} (c : CQ M p g s) (hu : u < gN g) : ∃ M', F_X8_mayMove 0 (nI u) (wheS g s o) M = some (if mvI g s u (wheS g s o) = 0 then 0 else 1, M') ∧ QC M M' := by
  have g1 := c.gp.1
  unfold F_X8_mayMove mvI
  rcases whe_case (u := o) c.gp c.gd with ⟨z, -⟩ | ⟨j, hj, z1, z2⟩
  · rw [if_pos z, if_pos z, if_neg (by decide)]; exact ⟨M, rfl, QC.rfl'⟩
  · have n1 : ¬ wheS g s o = -1 := by rw [z1]; exact nI_nm1 (by omega)
    obtain ⟨M1, e1, w1⟩ := c.go hu hj
    rw [if_neg n1, if_neg n1, Lc_0 c.1, z1, e1, bd2_t, nI_clamp (by omega)]
    refine ⟨M1, ?_, w1⟩
    split <;> rfl
theorem A_change (hc : CI M p g s L E I R T f) (hm : MI M g s L E I R T f) (hr : Rm M m) (hm5 : m < 512) (x1 x2 : Int32) : LFb m (F_L_change 0 x1 x2 97 M) (F_X9_change 67 x1 x2) := by
  have c := hc.cq hr (by omega)
  have g1 := c.gp.1
  have g2 := c.gp.2.1
  obtain ⟨k1, k2⟩ := keep_room hr hm5
  unfold F_L_change
  rcases pcase g x1 g2 with ⟨a1, ha1, rfl⟩ | hx
  rotate_left 1
  · refine LFb.thr hc hm hr ?_ (fun M1 m => ?_) (fun N => rfl)
    · unfold CT F_X8_change
      rw [Lc_0 c.1, c.needP' hx, bdV_r]
    · obtain ⟨e0, m0, -⟩ := m.zero
      refine MT.mk m (v := 0) ?_
      unfold F_X9_change
      rw [e0, ob_t, Lc_67 m0.lay, m0.isP' hx, bd2_t, if_pos rfl]
      rfl
  rcases pcase g x2 g2 with ⟨a2, ha2, rfl⟩ | hx
  rotate_left 1
  · refine LFb.thr hc hm hr ?_ (fun M1 m => ?_) (fun N => rfl)
    · unfold CT F_X8_change
      rw [Lc_0 c.1, c.needP ha1, bdV_l, Lc_0 c.1, c.needP' hx, bdV_r]
    · obtain ⟨e0, m0, -⟩ := m.zero
      refine MT.mk m (v := 0) ?_
      unfold F_X9_change
      rw [e0, ob_t, Lc_67 m0.lay, m0.isP ha1, bd2_t, if_neg (by decide), Lc_67 m0.lay, m0.isP' hx, bd2_t, if_pos rfl]
      rfl
  have pre : F_X8_change 0 (nI a1) (nI a2) M = F_X8_change_j47 0 (nI a1) (nI a2) (wheS g s a1) (wheS g s a2) (if wheS g s a1 = -1 ∧ wheS g s a2 = -1 then 1 else 0) M := by
    unfold F_X8_change F_X8_change_j46
    rw [Lc_0 c.1, c.needP ha1, bdV_l, Lc_0 c.1, c.needP ha2, bdV_l, Lp_0_4 c.1, ob_t, Lp_24_7 c.1, ob_t, c.whe ha1, ob_t, ob_t, Lp_24_7 c.1, ob_t, c.whe ha2, ob_t]
    by_cases z1 : wheS g s a1 = -1
    · by_cases z2 : wheS g s a2 = -1
      · rw [if_pos z1, if_pos z2, if_pos ⟨z1, z2⟩]
      · rw [if_pos z1, if_neg z2, if_neg (fun y => z2 y.2)]
    · rw [if_neg z1, if_neg (fun y => z1 y.1)]
  have mpre : ∀ N, MI N g s L E I R T f → F_X9_change 67 (nI a1) (nI a2) N = (if nI a1 = nI a2 then F_X9_change_j90 67 (nI a1) (nI a2) (wheS g s a1) (wheS g s a2) (stI N 67 0 0) else if wheS g s a1 = (-1 : Int32) then if wheS g s a2 = (-1 : Int32) then F_X9_change_j90 67 (nI a1) (nI a2) (wheS g s a1) (wheS g s a2) (stI N 67 0 0) else F_X9_change_j54 67 (nI a1) (nI a2) (wheS g s a1) (wheS g s a2) (stI N 67 0 0) else F_X9_change_j54 67 (nI a1) (nI a2) (wheS g s a1) (wheS g s a2) (stI N 67 0 0)) := by
    intro N hN
    obtain ⟨e0, zN, -⟩ := hN.zero
    unfold F_X9_change
    rw [e0, ob_t, Lc_67 zN.lay, zN.z.isP ha1, bd2_t, if_neg (by decide), Lc_67 zN.lay, zN.z.isP ha2, bd2_t, if_neg (by decide), Lc_67 zN.lay, zN.z.b.hof (u := a1) rfl, ob_t, Lc_67 zN.lay, zN.z.b.hof (u := a2) rfl, ob_t]
  have mref : ∀ N, ZI N g s L E I R T f → F_X9_change_j90 67 (nI a1) (nI a2) (wheS g s a1) (wheS g s a2) N = (bd2 (F_X9_refuses 67 1 N) fun v38 M37 => if v38 ≤ 0 then some ((0 : Int32), M37) else some ((1 : Int32), M37)) := by
    intro N zN
    unfold F_X9_change_j90 F_X9_change_j91
    rw [if_pos rfl, Lc_67 zN.lay]
  by_cases he : a1 = a2
  · subst he
    refine LFb.ref c.1 hr hc hm rfl rfl ?_ (fun N hN => ?_)
    · rw [pre]; unfold F_X8_change_j47
      rw [if_pos rfl, Lc_0 c.1, ref1 hc, bd2_t]
    · obtain ⟨e0, zN, wN⟩ := hN.zero
      exact ⟨_, zN, wN, by rw [mpre N hN, if_pos rfl, mref _ zN]⟩
  have hne : ¬ nI a1 = nI a2 := fun z => he ((nI_eq (by omega) (by omega)).mp z)
  by_cases hb : wheS g s a1 = -1 ∧ wheS g s a2 = -1
  · refine LFb.ref c.1 hr hc hm rfl rfl ?_ (fun N hN => ?_)
    · rw [pre]; unfold F_X8_change_j47
      rw [if_neg hne, if_pos hb, if_neg (by decide), Lc_0 c.1, ref1 hc, bd2_t]
    · obtain ⟨e0, zN, wN⟩ := hN.zero
      exact ⟨_, zN, wN, by rw [mpre N hN, if_neg hne, if_pos hb.1, if_pos hb.2, mref _ zN]⟩
  rw [if_neg hb] at pre
  have mpre2 : ∀ N, MI N g s L E I R T f → F_X9_change 67 (nI a1) (nI a2) N = F_X9_change_j54 67 (nI a1) (nI a2) (wheS g s a1) (wheS g s a2) (stI N 67 0 0) := by
    intro N hN
    rw [mpre N hN, if_neg hne]
    by_cases z1 : wheS g s a1 = -1
    · rw [if_pos z1, if_neg (fun z => hb ⟨z1, z⟩)]
    · rw [if_neg z1]
  -- what the reference's tests say
  have t54 : ∀ N, ZI N g s L E I R T f → ∃ N', ZI N' g s L E I R T f ∧ FM N N' ∧ F_X9_change_j54 67 (nI a1) (nI a2) (wheS g s a1) (wheS g s a2) N = (if mvI g s a1 (wheS g s a2) = 0 then F_X9_change_j90 67 (nI a1) (nI a2) (wheS g s a1) (wheS g s a2) N' else F_X9_change_j71 67 (nI a1) (nI a2) (wheS g s a1) (wheS g s a2) N') := by
    intro N zN
    unfold F_X9_change_j54 mvI
    rcases whe_case (u := a2) c.gp c.gd with ⟨z, -⟩ | ⟨j, hj, z1, z2⟩
    · rw [if_pos z, if_pos z]; exact ⟨N, zN, FM.rfl', by rw [if_neg (show ¬ (1 : Int32) = 0 by decide)]⟩
    · have n1 : ¬ wheS g s a2 = -1 := by rw [z1]; exact nI_nm1 (by omega)
      obtain ⟨N2, e2, y2, w2⟩ := zN.go ha1 hj
      rw [if_neg n1, if_neg n1, Lc_67 zN.lay]
      have ez : F_X9_wouldGo 67 0 (nI a1) (wheS g s a2) N = some (goI g s a1 (wheS g s a2).toNatClampNeg (dampS g s), N2) := by rw [z1, nI_clamp (by omega)]; exact e2
      rw [ez, bd2_t]
      exact ⟨N2, y2, w2, rfl⟩
  have t71 : ∀ N, ZI N g s L E I R T f → ∃ N', ZI N' g s L E I R T f ∧ FM N N' ∧ F_X9_change_j71 67 (nI a1) (nI a2) (wheS g s a1) (wheS g s a2) N = (if mvI g s a2 (wheS g s a1) = 0 then F_X9_change_j90 67 (nI a1) (nI a2) (wheS g s a1) (wheS g s a2) N' else F_X9_change_j86 67 (nI a1) (nI a2) (wheS g s a1) (wheS g s a2) N') := by
    intro N zN
    unfold F_X9_change_j71 mvI
    rcases whe_case (u := a1) c.gp c.gd with ⟨z, -⟩ | ⟨j, hj, z1, z2⟩
    · rw [if_pos z, if_pos z]; exact ⟨N, zN, FM.rfl', by rw [if_neg (show ¬ (1 : Int32) = 0 by decide)]⟩
    · have n1 : ¬ wheS g s a1 = -1 := by rw [z1]; exact nI_nm1 (by omega)
      obtain ⟨N2, e2, y2, w2⟩ := zN.go ha2 hj
      rw [if_neg n1, if_neg n1, Lc_67 zN.lay]
      have ez : F_X9_wouldGo 67 0 (nI a2) (wheS g s a1) N = some (goI g s a2 (wheS g s a1).toNatClampNeg (dampS g s), N2) := by rw [z1, nI_clamp (by omega)]; exact e2
      rw [ez, bd2_t]
      exact ⟨N2, y2, w2, rfl⟩
  obtain ⟨Mx, ex, wx⟩ := c.may (o := a2) ha1
  have hcx := hc.c2 wx
  have hmx := hm.c2 wx
  have cx := c.c wx
  by_cases z1 : mvI g s a1 (wheS g s a2) = 0
  · refine LFb.ref c.1 hr hcx hmx wx.1 wx.2.2.1 ?_ (fun N hN => ?_)
    · rw [pre]; unfold F_X8_change_j47
      rw [if_neg hne, if_pos rfl, Lc_0 c.1, ex, bd2_t, if_pos z1, if_pos rfl, Lc_0 cx.1, ref1 hcx, bd2_t]
    · obtain ⟨e0, zN, wN⟩ := hN.zero
      obtain ⟨N2, y2, w2, e2⟩ := t54 _ zN
      exact ⟨N2, y2, wN.trans w2, by rw [mpre2 N hN, e2, if_pos z1, mref _ y2]⟩
  obtain ⟨My, ey, wy⟩ := cx.may (o := a1) ha2
  have hcy := hcx.c2 wy
  have hmy := hmx.c2 wy
  have cy := cx.c wy
  by_cases z2 : mvI g s a2 (wheS g s a1) = 0
  · refine LFb.ref c.1 hr hcy hmy (wy.1.trans wx.1) (wy.2.2.1.trans wx.2.2.1) ?_ (fun N hN => ?_)
    · rw [pre]; unfold F_X8_change_j47
      rw [if_neg hne, if_pos rfl, Lc_0 c.1, ex, bd2_t, if_neg z1, if_neg (by decide), Lc_0 cx.1, ey, bd2_t, if_pos z2, if_pos rfl, Lc_0 cy.1, ref1 hcy, bd2_t]
    · obtain ⟨e0, zN, wN⟩ := hN.zero
      obtain ⟨N2, y2, w2, e2⟩ := t54 _ zN
      obtain ⟨N3, y3, w3, e3⟩ := t71 _ y2
      exact ⟨N3, y3, (wN.trans w2).trans w3, by rw [mpre2 N hN, e2, if_neg z1, e3, if_pos z2, mref _ y3]⟩
  obtain ⟨M3, e3, c3, w3, l3, s3⟩ := C_keep hcy (by rw [wy.1, wx.1]; exact k1) (by rw [wy.2.2.1, wx.2.2.1]; exact k2)
  obtain ⟨N1, N2, N3, N4, q1, q2, q3, q4, ll1, ll2, ll3, c4, w4⟩ := C_ch c3 ha1 ha2 he
  have m4 : MI (stL N4 97 0 1) g s L E I R T f := MI.out (hmy.fr c4.1 fun k a b => (wr_mI w4 (by simp; omega)).trans (w3 k a (by omega)))
  obtain ⟨e0, zN, wN⟩ := m4.zero
  obtain ⟨O2, y2, v2, f2⟩ := t54 _ zN
  obtain ⟨O3, y3, v3, f3⟩ := t71 _ y2
  obtain ⟨O4, f4, y4, v4⟩ := M_keep y3
  have hd := c.gd.ch c.gp ha1 ha2 he
  have fin : ∃ O5, F_X9_change_j86 67 (nI a1) (nI a2) (wheS g s a1) (wheS g s a2) O3 = some (1, O5) ∧ ZI O5 g (chS g s a1 a2) (keptL L s) E I R T f ∧ FM O4 O5 := by
    unfold F_X9_change_j86 F_X9_change_j91 F_X9_change_j131
    rw [if_neg (by decide), Lc_67 y3.lay, f4, ob_t]
    have store : ∀ (N : Mem) (F : Nat → Int32) (j : Nat) (v : Int32), Lay N → mI N 83 = F → j < gH g → sI N 100 83 ((19 : Int32) + nI j) v = some (stI N 83 (0 + 19 + j) v) ∧ mI (stI N 83 (0 + 19 + j) v) 83 = upg F (0 + 19 + j) v := by
      intro N F j v hL hF hj
      refine ⟨?_, by rw [mI_steq, hF]⟩
      rw [show (19 : Int32) + nI j = nI (19 + j) from nI_add 19 j, Nat.zero_add]; exact Lw_83 hL (by omega)
    have done : ∀ N, WB 0 O4 N → RwV (mI N 83) 0 g (chS g s a1 a2) → ZI N g (chS g s a1 a2) (keptL L s) E I R T f ∧ FM O4 N := fun N wb hrw => y4.now wb hrw hd
    have r4 := y4.1.1.1.rw
    rcases whe_case (u := a1) c.gp c.gd with ⟨u1, -⟩ | ⟨a, ha, u1, u2⟩
    · have n2 : ¬ wheS g s a2 = -1 := fun z => hb ⟨u1, z⟩
      rcases whe_case (u := a2) c.gp c.gd with ⟨z, -⟩ | ⟨b, hbb, b1, b2⟩
      · exact absurd z n2
      · obtain ⟨st, sm⟩ := store O4 (mI O4 83) b (nI a1) y4.lay rfl hbb
        rw [if_pos u1, if_neg n2, Lp_67_41 y4.lay, ob_t, b1, st, ob_t]
        refine ⟨_, rfl, done _ (WB.rfl'.st (by omega) (by omega)) ?_⟩
        rw [sm]
        have := r4.who (h := b) (v := nI a1) c.gp hbb
        have ew : upg (sWho s) b (nI a1) = chW (sWho s) (wheS g s a1) (wheS g s a2) a1 a2 := funext fun k => by
          unfold chW upg
          rw [if_neg (show ¬ (wheS g s a1 ≠ -1 ∧ k = (wheS g s a1).toNatClampNeg) from fun y => y.1 u1), b1, nI_clamp (by omega)]
          by_cases e : k = b
          · rw [if_pos e, if_pos ⟨nI_nm1 (by omega), e⟩]
          · rw [if_neg e, if_neg (fun y => e y.2)]
        rw [ew] at this; exact this
    · have n1 : ¬ wheS g s a1 = -1 := by rw [u1]; exact nI_nm1 (by omega)
      obtain ⟨st, sm⟩ := store O4 (mI O4 83) a (nI a2) y4.lay rfl ha
      rw [if_neg n1, Lp_67_41 y4.lay, ob_t, u1, st, ob_t]
      have L5 : Lay (stI O4 83 (0 + 19 + a) (nI a2)) := y4.lay
      have wb1 : WB 0 O4 (stI O4 83 (0 + 19 + a) (nI a2)) := WB.rfl'.st (by omega) (by omega)
      rcases whe_case (u := a2) c.gp c.gd with ⟨z, -⟩ | ⟨b, hbb, b1, b2⟩
      · rw [if_pos z]
        refine ⟨_, rfl, done _ wb1 ?_⟩
        rw [sm]
        have := r4.who (h := a) (v := nI a2) c.gp ha
        have ew : upg (sWho s) a (nI a2) = chW (sWho s) (wheS g s a1) (wheS g s a2) a1 a2 := funext fun k => by
          unfold chW upg
          rw [u1, nI_clamp (by omega)]
          by_cases e : k = a
          · rw [if_pos e, if_pos ⟨nI_nm1 (by omega), e⟩]
          · rw [if_neg e, if_neg (fun y => e y.2), if_neg (fun y => y.1 z)]
        rw [ew] at this; exact this
      · have n2 : ¬ wheS g s a2 = -1 := by rw [b1]; exact nI_nm1 (by omega)
        obtain ⟨st2, sm2⟩ := store _ _ b (nI a1) L5 sm hbb
        rw [if_neg n2, Lp_67_41 L5, ob_t, b1, st2, ob_t]
        refine ⟨_, rfl, done _ (wb1.st (by omega) (by omega)) ?_⟩
        rw [sm2]
        have := (r4.who (h := a) (v := nI a2) c.gp ha).who (h := b) (v := nI a1) c.gp hbb
        have nab := whe_ne c.gp c.gd ha1 ha2 he ha hbb u1 b1
        have ew : upg (upg (sWho s) a (nI a2)) b (nI a1) = chW (sWho s) (wheS g s a1) (wheS g s a2) a1 a2 := funext fun k => by
          unfold chW upg
          rw [u1, b1, nI_clamp (by omega), nI_clamp (by omega)]
          by_cases e : k = a
          · rw [if_neg (show ¬ k = b by omega), if_pos e, if_pos ⟨nI_nm1 (by omega), e⟩]
          · by_cases e2 : k = b
            · rw [if_pos e2, if_neg (fun y => e y.2), if_pos ⟨nI_nm1 (by omega), e2⟩]
            · rw [if_neg e2, if_neg e, if_neg (fun y => e y.2), if_neg (fun y => e2 y.2)]
        have t2 : sWho (sDay s, sWet s, sBur s, sSiz s, sWor s, upg (sWho s) a (nI a2), sHee s, sSor s) = upg (sWho s) a (nI a2) := rfl
        rw [t2, ew] at this; exact this
  obtain ⟨O5, f5, y5, v5⟩ := fin
  refine LFb.act (v := 1) (x := 1) (M1 := N4) (Or.inr ⟨rfl, rfl⟩) c.1 hr ?_ c4 (by rw [w4.1]; rw [wy.1, wx.1] at l3; omega) (by rw [w4.2.2.2.1]; rw [wy.2.2.1, wx.2.2.1] at s3; omega) (M2 := O5) ?_ y5 ((((wN.trans v2).trans v3).trans v4).trans v5)
  · rw [pre]; unfold F_X8_change_j47
    rw [if_neg hne, if_pos rfl, Lc_0 c.1, ex, bd2_t, if_neg z1, if_neg (by decide), Lc_0 cx.1, ey, bd2_t, if_neg z2, if_neg (by decide), Lp_0_6 cy.1, ob_t, Lp_0_4 cy.1, ob_t, Lc_38 cy.1, e3, ob_t, Lp_0_4 c3.1, ob_t, Lc_24 c3.1, q1, ob_t, Lp_0_4 ll1, ob_t, Lc_24 ll1, q2, ob_t, Lc_0 ll2, q3, ob_t, Lc_0 ll3, q4, ob_t]
  · rw [mpre2 _ m4, f2, if_neg z1, f3, if_neg z2, f5]
end
