section
variable {M M' M1 M2 Mx : Mem} {p m : Nat} {g : Pg} {s s' : Sg} {L L' : List Sg} {E E' : List Se} {I I' : Option (Sg × List Sg × List Se)} {R R' : Nat → Int32} {T T' : List Nat} {f f' : Int32}
theorem AF.ref {co : Option (Int32 × Mem)} {mo : Mem → Option (Int32 × Mem)} (hr : Rm M m) (hc : CI M p g s L E I R T f) (hm : MI M g s L E I R T f) (e1 : co = some (-1, stI M 57 1 (R 1 + 1))) (e2 : ∀ N, MI N g s L E I R T f → ∃ N', ZI N' g s L E I R T f ∧ FM N N' ∧ mo N = (bd2 (F_X9_refuses 67 1 N') fun a b => some (a, b))) : AF m co mo := by
  obtain ⟨-, -, c1, -⟩ := C_ref hc (k := 1) (by omega)
  have m1 : MI (stI M 57 1 (R 1 + 1)) g s L E I R T f := hm.ref hc
  obtain ⟨N', zN, wN, e3⟩ := e2 _ m1
  obtain ⟨M2, e4, z4, w4⟩ := M_ref1 zN
  exact AF.mk hr e1 c1 (by show M.1.length ≤ _; omega) (by show mS M ≤ _; omega) (M2 := M2) (by rw [e3, e4, bd2_t]) z4.1 (wN.trans w4)
-- damp let in
def letS (s : Sg) : Sg := (sDay s, 1, sBur s, sSiz s, sWor s, sWho s, sHee s, sSor s)
theorem GdS.lett (hd : GdS 999 g s) : GdS 999 g (letS s) := by
  obtain ⟨d1, d2, d3⟩ := hd
  exact ⟨d1, Or.inr rfl, d3⟩
theorem A_letIn (hc : CI M p g s L E I R T f) (hm : MI M g s L E I R T f) (hr : Rm M m) (hm5 : m < 512) : AF m (F_X8_letIn 0 M) (F_X9_letIn 67) := by
  have c := hc.cq hr (by omega)
  obtain ⟨k1, k2⟩ := keep_room hr hm5
  rcases c.gd.2.1 with hw | hw
  · obtain ⟨M3, e3, c3, w3, l3, s3⟩ := C_keep hc k1 k2
    have t24 : M3.1[24]? = some (6, 0) := c3.2.2.2.2.2.1.1.1
    have w4 : Wr [24] M3 (stI M3 24 1 1) := Wr.rfl'.st (by simp)
    have s4 : StV (stI M3 24 1 1) 24 g (letS s) := by
      have hs := c3.2.2.2.2.2.1
      refine ⟨hs.1.wr w4, ?_, ?_, ?_, fun k hk => ?_, fun k hk => ?_⟩
      · rw [mI_steq, upg_ne (by omega)]; exact hs.2.1
      · rw [mI_steq, upg_eq]; rfl
      · rw [mI_steq, upg_ne (by omega)]; exact hs.2.2.2.1
      · rw [mI_stne (by omega), mI_stne (by omega), mI_stne (by omega)]; exact hs.2.2.2.2.1 k hk
      · rw [mI_stne (by omega), mI_stne (by omega), mI_stne (by omega)]; exact hs.2.2.2.2.2 k hk
    have c4 := c3.now w4 (by decide) s4 c.gd.lett
    have m4 : MI (stI M3 24 1 1) g s L E I R T f := hm.fr c4.1 fun k a b => (wr_mI w4 (by simp; omega)).trans (w3 k a (by omega))
    obtain ⟨e0, zN, wN⟩ := m4.zero
    obtain ⟨N3, f3, y3, v3⟩ := M_keep zN
    have hrw : RwV (upg (mI N3 83) (0 + 2 + 0) 1) 0 g (letS s) := by
      have g1 := c.gp.1
      have g2 := c.gp.2.1
      obtain ⟨r1, r2, r3, r4, r5⟩ := y3.1.1.1.rw
      refine ⟨?_, ?_, ?_, fun k hk => ?_, fun k hk => ?_⟩
      · rw [upg_ne (by omega)]; exact r1
      · rw [upg_ne (by omega)]; exact r2
      · rw [upg_eq]; rfl
      · rw [upg_ne (by omega), upg_ne (by omega), upg_ne (by omega)]; exact r4 k hk
      · rw [upg_ne (by omega), upg_ne (by omega)]; exact r5 k hk
    obtain ⟨f4, y4, v4⟩ := y3.set (c := 2) (k := 0) (v := 1) (s' := letS s) (by omega) hrw c.gd.lett
    have f4' : sI N3 100 83 2 1 = some (stI N3 83 (0 + 2 + 0) 1) := f4
    have hdm : F_X9_dampIn 67 0 (stI (stI M3 24 1 1) 67 0 0) = some (dampS g s) := by rw [zN.z.b.damp]; unfold dmp; rw [if_pos zN.1.1.2]
    refine AF.mk (v := dampS g s) hr ?_ c4 (by show M3.1.length ≤ _; omega) (by show mS M3 ≤ _; omega) ?_ y4.1 ((wN.trans v3).trans v4)
    · unfold F_X8_letIn
      rw [Lp_0_4 hc.1, ob_t, c.wet, ob_t, if_pos hw, Lp_0_6 hc.1, ob_t, ob_t, Lc_38 hc.1, e3, ob_t, gP_t (c3.1.t rfl) c3.2.2.1, ob_t, Lp_0_4 c3.1, ob_t, ckO_t c3.2.2.2.1.1.1, F_dampOf c3.2.2.2.1 c3.2.2.2.2.2.1 c.gd, ob_t, ob_t, pZ_t (Or.inr rfl) t24, ob_t]
    · unfold F_X9_letIn
      rw [e0, ob_t, Lp_67_41 zN.lay, ob_t, zN.z.wet, ob_t, if_neg (by rw [hw]; decide), Lc_67 zN.lay, hdm, ob_t, Lc_67 zN.lay, f3, ob_t, Lp_67_41 y3.lay, ob_t, f4', ob_t]
  · refine AF.ref hr hc hm ?_ (fun N hN => ?_)
    · unfold F_X8_letIn
      rw [Lp_0_4 hc.1, ob_t, c.wet, ob_t, if_neg (by rw [hw]; decide), Lc_0 hc.1, ref1 hc, bd2_t]
    · obtain ⟨e0, zN, wN⟩ := hN.zero
      refine ⟨_, zN, wN, ?_⟩
      unfold F_X9_letIn
      rw [e0, ob_t, Lp_67_41 zN.lay, ob_t, zN.z.wet, ob_t, if_pos hw, Lc_67 zN.lay]
-- undone
theorem A_undo (hc : CI M p g s L E I R T f) (hm : MI M g s L E I R T f) (hr : Rm M m) (hm5 : m < 512) : AF m (F_X8_undo 0 M) (F_X9_undo 67) := by
  have c := hc.cq hr (by omega)
  have hl := hc.1.len
  obtain ⟨k1, k2⟩ := keep_room hr hm5
  obtain ⟨f0, a1, a2, a3, a4, a5⟩ := hc.2.2.2.2.2.2.2.2.1
  obtain ⟨e0, zN, wN⟩ := hm.zero
  rcases List.eq_nil_or_concat L with hL | ⟨L0, t, hL⟩
  · subst hL
    refine AF.mk (v := -1) (M1 := M) hr ?_ hc (by omega) (by omega) (M2 := stI M 67 0 0) ?_ zN.1 wN
    · unfold F_X8_undo F_X0_takeBack
      rw [Lp_0_6 hc.1, ob_t, Lp_0_4 hc.1, ob_t, Lc_38 hc.1, Lf_38 hc.1, ob_t, a3, if_neg (by decide), bd2_t, if_pos rfl]
    · unfold F_X9_undo
      rw [e0, ob_t, Lf_67 zN.lay, ob_t, zN.1.2.1.1, if_pos (show nI ([] : List Sg).length = 0 from rfl)]
  · rw [List.concat_eq_append] at hL
    subst hL
    have hlen : (L0 ++ [t]).length = L0.length + 1 := by simp
    rw [hlen] at a3 a4
    have gt : GdS 999 g t := hc.2.2.2.2.2.2.2.2.2.1 t (by simp)
    -- the class
    have w1 : Wr [38] M (stI M 38 2 (nI L0.length)) := Wr.rfl'.st (by simp)
    have hD : ∀ k ∈ [38], k < 98 := by decide
    have c1 : CI (stI M 38 2 (nI L0.length)) p g s L0 E I R T f := by
      refine hc.re w1.kp hD (by decide) (hc.s_kp w1.kp (fun k k1 k2 => by simp; omega)) ⟨⟨f0, a1, ?_, ?_, by omega, fun i u hu => ?_⟩, fun u hu => hc.2.2.2.2.2.2.2.2.2.1 u (by simp [hu])⟩ (hc.E_kp w1.kp (by decide)) (hc.I_kp w1.kp hD (by decide) (fun k k1 k2 => by simp; omega)) (hc.R_kp w1.kp (by decide)) (hc.T_kp w1.kp (by decide)) (hc.f_kp w1.kp (by decide))
      · rw [mI_steq, upg_ne (by omega)]; exact a2
      · rw [mI_steq, upg_eq]
      · obtain ⟨b, q1, q2⟩ := a5 i u (by rw [List.getElem?_append_left (List.getElem?_eq_some_iff.mp hu).1]; exact hu)
        refine ⟨b, q1, q2.kp w1.kp (fun k hk j z => ?_) (fun _ z => z)⟩
        have := (hc.2.2.2.2.2.2.2.1.1 39 (Or.inl rfl) _ b (Nat.mod_lt _ (by omega)) q1).1
        unfold NC at this
        simp at z; omega
    obtain ⟨b, q1, q2⟩ := a5 L0.length t (by simp)
    have hj : (f0 + L0.length) % 40 < 40 := Nat.mod_lt _ (by omega)
    have hb98 := (hc.2.2.2.2.2.2.2.1.1 39 (Or.inl rfl) _ b hj q1).1
    unfold NC at hb98
    have q2' : StV (stI M 38 2 (nI L0.length)) b g t := q2.kp w1.kp (fun k hk j z => by simp at z; omega) (fun _ z => z)
    have er : F_X0_row 38 (nI ((f0 + L0.length) % 40)) (stI M 38 2 (nI L0.length)) = some (b, stI M 38 2 (nI L0.length)) := by
      unfold F_X0_row
      rw [Lp_38_0 c1.1, ob_t, aQ_t (c1.1.t (k := 39) rfl) hj (by omega)]
      have : mP (stI M 38 2 (nI L0.length)) 39 ((f0 + L0.length) % 40) = some b := q1
      rw [this, bdQ_s]
    obtain ⟨M2, e2, s2, w2⟩ := F_copy (a := 24) (b := b) c1.2.2.2.2.2.1.1 q2' gt c.gp (Or.inl (by omega))
    have c2 := c1.now w2 (by decide) s2 gt
    have r2 : nI (L0.length + 1) - 1 = nI L0.length := nI_pred _
    have m2 : MI M2 g s (L0 ++ [t]) E I R T f := hm.fr c2.1 fun k a b => (wr_mI w2 (by unfold WC; simp; omega)).trans (mI_stne (by omega))
    -- the reference
    obtain ⟨e0, zN, wN⟩ := m2.zero
    have x43 : mI (stI M2 67 0 0) 67 43 = nI (L0.length + 1) := by rw [zN.1.2.1.1, hlen]
    have w3 : FM M2 (stI (stI M2 67 0 0) 67 43 (nI L0.length)) := wN.st (by omega)
    have s67 : ∀ j, j ≠ 43 → mI (stI (stI M2 67 0 0) 67 43 (nI L0.length)) 67 j = mI (stI M2 67 0 0) 67 j := fun j hj => by rw [mI_steq, upg_ne hj]
    obtain ⟨M4, e4, w4, h1, h2⟩ := loop_cp (M := stI (stI M2 67 0 0) 67 43 (nI L0.length)) (step := fun z : Int32 × Mem => F_X9_undo_s26 67 z.1 z.2) 84 83 (fun i => 43 * L0.length + i) (fun i => i) 43 (by omega) (fun i j _ _ z => z) (by
      intro i M' hi w'
      have hL := Lay.wr (M := stI (stI M2 67 0 0) 67 43 (nI L0.length)) zN.lay w'
      unfold F_X9_undo_s26
      dsimp only
      rw [if_neg (show ¬ (43 : Int32) ≤ nI i from nI_ge (b := 43) hi (by omega)), Lp_67_41 hL, ob_t, Lp_67_42 hL, ob_t, Lf_67 hL, ob_t, wr_mI w' (k := 67) (by decide), mI_steq, upg_eq, mul43, La_84 hL (by omega), ob_t, Lw_83 hL (by omega), ob_t, nI_1]) (by
      intro M' w'
      unfold F_X9_undo_s26
      dsimp only
      rw [if_pos (show (43 : Int32) ≤ nI 43 from nI_le (a := 43) (Nat.le_refl _) (by omega))])
    have e4' : loop (fun z : Int32 × Mem => F_X9_undo_s26 67 z.1 z.2) ((0 : Int32), stI (stI M2 67 0 0) 67 43 (nI L0.length)) = some M4 := e4
    have hL4 : Lay M4 := Lay.wr (M := stI (stI M2 67 0 0) 67 43 (nI L0.length)) zN.lay w4
    have sm : ∀ k, k ≠ 67 → k ≠ 83 → mI M4 k = mI (stI M2 67 0 0) k := fun k a b => by rw [wr_mI w4 (by simp; exact b), mI_stne a]
    have t67 : ∀ j, j ≠ 43 → mI M4 67 j = mI (stI M2 67 0 0) 67 j := fun j hj => by rw [wr_mI w4 (k := 67) (by decide)]; exact s67 j hj
    have u43 : mI M4 67 43 = nI L0.length := by rw [wr_mI w4 (k := 67) (by decide), mI_steq, upg_eq]
    have hrw : RwV (mI M4 83) 0 g t := by
      refine (zN.1.2.1.2.2 L0.length t (by simp)).cp c.gp fun i hi => ?_
      rw [Nat.zero_add, h1 i hi, mI_stne (by omega)]
    have z4 : MI M4 g t L0 E I R T f := by
      refine ⟨zN.1.1.fr hL4 (fun k a b => sm k (by omega) (by omega)) (fun j hj => t67 j (by omega)) hrw gt, ⟨u43, by omega, fun i u hu => ?_⟩, ?_, zN.1.2.2.2.1.fr (fun j hj => t67 j (by omega)) ⟨sm 94 (by omega) (by omega), sm 95 (by omega) (by omega), sm 96 (by omega) (by omega)⟩, ?_, ?_, ?_⟩
      · rw [sm 84 (by omega) (by omega)]
        exact zN.1.2.1.2.2 i u (by rw [List.getElem?_append_left (List.getElem?_eq_some_iff.mp hu).1]; exact hu)
      · rw [t67 51 (by omega)]; exact zN.1.2.2.1.fr (sm 91 (by omega) (by omega))
      · rw [sm 74 (by omega) (by omega)]; exact zN.1.2.2.2.2.1
      · rw [t67 12 (by omega), sm 73 (by omega) (by omega)]; exact zN.1.2.2.2.2.2.1
      · rw [t67 14 (by omega)]; exact zN.1.2.2.2.2.2.2
    have e38 : mI M2 38 2 = nI L0.length := by rw [wr_mI w2 (k := 38) (by decide), mI_steq, upg_eq]
    refine AF.mk (v := nI L0.length) hr ?_ c2 (by rw [w2.1]; show M.1.length ≤ _; omega) (by rw [w2.2.2.2.1]; show mS M ≤ _; omega) ?_ z4 (w3.trans (w4.fm (by simp)))
    · unfold F_X8_undo F_X0_takeBack F_X0_many
      rw [Lp_0_6 hc.1, ob_t, Lp_0_4 hc.1, ob_t, Lc_38 hc.1, Lf_38 hc.1, ob_t, a3, if_pos (show (0 : Int32) < nI (L0.length + 1) from nI_lt (a := 0) (by omega) (by omega)), ob_t, Ls_38 hc.1, ob_t, r2, Lf_38 c1.1, ob_t, mI_steq, upg_ne (by omega), a2, Lf_38 c1.1, ob_t, mI_steq, upg_eq, Lc_38 c1.1, rem40 (by omega), er, bd2_t, Lc_24 c1.1, e2, ob_t, bd2_t, if_neg (by decide), Lp_0_6 c2.1, ob_t, Lc_38 c2.1, Lf_38 c2.1, ob_t, ob_t, e38]
    · unfold F_X9_undo
      rw [e0, ob_t, Lf_67 zN.lay, ob_t, x43, if_neg (nI_ne0 (by omega) (by omega)), ob_t, Ls_67 zN.lay, ob_t, r2, e4', ob_t, Lf_67 hL4, ob_t, u43]
end
