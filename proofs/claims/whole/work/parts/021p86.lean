/-! ===== acts, as the law asks them ===== -/
def AF (m : Nat) (co : Option (Int32 × Mem)) (mo : Mem → Option (Int32 × Mem)) : Prop := ∃ v M1 M2, co = some (v, M1) ∧ mo M1 = some (v, M2) ∧ Lay M1 ∧ Inv M2 (m + 1)
section
variable {M M' M1 M2 : Mem} {p m : Nat} {g : Pg} {s s' : Sg} {L L' : List Sg} {E E' : List Se} {I I' : Option (Sg × List Sg × List Se)} {R R' : Nat → Int32} {T T' : List Nat} {f f' : Int32}
theorem fin (hr : Rm M m) (c1 : CI M1 p g s' L' E' I' R' T' f') (z2 : MI M2 g s' L' E' I' R' T' f') (w : FM M1 M2) (h1 : M1.1.length ≤ M.1.length + 900) (h2 : mS M1 ≤ mS M + 11000) : Inv M2 (m + 1) := by
  refine ⟨p, g, s', L', E', I', R', T', f', c1.fm w, z2, ?_⟩
  unfold Rm at *
  rw [w.1, w.2.2.1]
  omega
theorem AF.mk {co : Option (Int32 × Mem)} {mo : Mem → Option (Int32 × Mem)} {v : Int32} (hr : Rm M m) (e1 : co = some (v, M1)) (c1 : CI M1 p g s' L' E' I' R' T' f') (h1 : M1.1.length ≤ M.1.length + 900) (h2 : mS M1 ≤ mS M + 11000) (e2 : mo M1 = some (v, M2)) (z2 : MI M2 g s' L' E' I' R' T' f') (w : FM M1 M2) : AF m co mo := ⟨v, M1, M2, e1, e2, c1.1, fin hr c1 z2 w h1 h2⟩
/-- an act that may refuse by a throw: both answer v -/
theorem LF.act {co : Option ((Int32 × Mem) ⊕ (Nat × Mem))} {mo : Mem → Option (Int32 × Mem)} {v : Int32} {hnd : Nat → Mem → Option (Int32 × Mem)} (hL : Lay M) (hr : Rm M m) (e1 : co = some (.inl (v, M1))) (c1 : CI M1 p g s' L' E' I' R' T' f') (h1 : M1.1.length ≤ M.1.length + 900) (h2 : mS M1 ≤ mS M + 11000) (e2 : mo (stL M1 97 0 (v.toInt64)) = some (v, M2)) (z2 : ZI M2 g s' L' E' I' R' T' f') (w : FM (stL M1 97 0 (v.toInt64)) M2) : LF m (ckO M 8 0 (bdT co (fun v4 M3 => (sL M3 97 (0 : Int32) (v4.toInt64)).bind fun M5 => some ((0 : Int32), M5)) hnd)) mo := by
  refine ⟨0, stL M1 97 0 (v.toInt64), v, M2, ?_, e2, c1.out.1, z2.lay, z2.2, fun _ => ?_, fin (M := M) (M1 := stL M1 97 0 (v.toInt64)) hr c1.out z2.1 w h1 h2⟩
  · rw [Lc_0 hL, e1, bdT_l, outL c1.1, ob_t]
  · rw [w.2.2.2.1 97 (by omega), mL_stL, if_pos ⟨rfl, rfl⟩]
theorem keep_room (hr : Rm M m) (hm : m < 512) : M.1.length + 7 ≤ CLM ∧ mS M + 57 ≤ SLM := by unfold Rm at hr; unfold CLM SLM; omega
theorem ref1 (h : CI M p g s L E I R T f) : F_X8_refuseAct 0 M = some (-1, stI M 57 1 (R 1 + 1)) := by
  obtain ⟨e1, e2, -, -⟩ := C_ref h (k := 1) (by omega)
  have e1' : aI M 100 57 1 = _ := e1
  have e2' : sI M 100 57 1 (R 1 + 1) = _ := e2
  unfold F_X8_refuseAct
  rw [Lp_0_12 h.1, ob_t, e1', ob_t, e2', ob_t]
theorem M_ref1 (h : ZI M g s L E I R T f) : ∃ M', F_X9_refuses 67 1 M = some (-1, M') ∧ ZI M' g s L E I (upg R 1 (R 1 + 1)) T f ∧ FM M M' := M_ref h (k := 1) (by omega)
theorem MI.ref (h : MI M g s L E I R T f) {k : Nat} {v : Int32} (hc : CI M p g s L E I R T f) : MI (stI M 57 k v) g s L E I R T f := h.fr hc.1 fun j a b => mI_stne (by omega)
-- days
theorem GdS.own {D : Int} (hd : GdS D g s) : GdS (sDay s).toInt g s := ⟨⟨hd.1.1, Int.le_refl _⟩, hd.2⟩
theorem C_passn {n : Nat} (h : CI M p g s L E I R T f) (hn : n ≤ 20) (hday : (sDay s).toInt + n ≤ 999) : ∃ M', F_X8_pass 0 24 (nI n) M = some M' ∧ CI M' p g (passN g n s) L E I R T f ∧ (∀ k, 67 ≤ k → k < 98 → mI M' k = mI M k) ∧ M'.1 = M.1 ∧ mS M' = mS M := by
  have hp := h.p14
  obtain ⟨M2, e2, c2, w2⟩ := loop_mm (step := fun z : Int32 × Mem => F_X8_pass_s2 0 24 (nI n) z.1 z.2) (fun i M' => (nI i, M')) (fun M' => M') n (fun i M' => CI M' p g (passN g i s) L E I R T f ∧ Wr (WL p 24) M M') (M := M) ⟨h, Wr.rfl'⟩ (by
    rintro i M' hi ⟨c', w'⟩
    have hv := c'.2.2.2.1
    have hs := c'.2.2.2.2.2.1
    have hd := h.2.2.2.2.2.2.1.own.passN h.2.2.2.1.2.1 (n := i) (by omega)
    have gp : gP M' 8 0 2 = some p := gP_t (c'.1.t rfl) c'.2.2.1
    have ck : ∀ {β : Type} {o : Option β}, ckO M' 2 p o = o := fun {_ _} => ckO_t hv.1.1
    obtain ⟨M3, e3, s3, w3⟩ := F_pass (d := dampS g (passN g i s)) hv hs hd (by omega) (by unfold NC; omega)
    refine ⟨M3, ?_, c'.now w3 (fun k hk => by unfold WL at hk; simp only [List.mem_cons, List.not_mem_nil, or_false] at hk; omega) s3 ((hd.day h.2.2.2.1.2.1 (by omega)).mono (by omega)), w'.trans w3⟩
    unfold F_X8_pass_s2
    dsimp only
    rw [if_neg (nI_ge hi (by omega)), gp, ob_t, ob_t, ck, F_dampOf hv hs hd, ob_t, ck, e3, ob_t, nI_1]) (by
    rintro M' ⟨m', w'⟩
    unfold F_X8_pass_s2
    dsimp only
    rw [if_pos (nI_le (Nat.le_refl _) (by omega))])
  refine ⟨M2, ?_, c2, fun k a b => wr_mI w2 (by unfold WL; simp; omega), w2.1, w2.2.2.2.1⟩
  unfold F_X8_pass
  have e2' : loop (fun z : Int32 × Mem => F_X8_pass_s2 0 24 (nI n) z.1 z.2) ((0 : Int32), M) = some M2 := e2
  rw [e2', ob_t]
theorem M_passn {n : Nat} (h : ZI M g s L E I R T f) (hn : n ≤ 20) (hday : (sDay s).toInt + n ≤ 999) : ∃ M', loop (fun z : Int32 × Mem => F_X9_days_s41 67 (nI n) z.1 z.2) ((0 : Int32), M) = some M' ∧ ZI M' g (passN g n s) L E I R T f ∧ FM M M' := by
  obtain ⟨M2, e2, c2, w2⟩ := loop_mm (step := fun z : Int32 × Mem => F_X9_days_s41 67 (nI n) z.1 z.2) (fun i M' => (nI i, M')) (fun M' => M') n (fun i M' => ZI M' g (passN g i s) L E I R T f ∧ FM M M') (M := M) ⟨h, FM.rfl'⟩ (by
    rintro i M' hi ⟨z', w'⟩
    have hd := h.1.1.1.gd.own.passN h.1.1.1.gp (n := i) (by omega)
    have mb : MB M' 0 0 g (passN g i s) ((sDay s).toInt + i) := ⟨z'.lay, z'.1.1.1.2.1, rfl, by omega, z'.1.1.1.rw, hd⟩
    obtain ⟨M3, e3, m3, w3⟩ := mb.dayG (by omega)
    have eo : dmp (mI M' 67 46) g (passN g i s) = dampS g (passN g i s) := by unfold dmp; rw [if_pos z'.1.1.2]
    rw [eo] at m3
    obtain ⟨z3, f3⟩ := z'.now (s' := passS g (passN g i s)) w3 m3.rw (m3.gd.mono (by omega))
    refine ⟨M3, ?_, z3, w'.trans f3⟩
    unfold F_X9_days_s41
    dsimp only
    rw [if_neg (nI_ge hi (by omega)), Lc_67 z'.lay, e3, ob_t, nI_1]) (by
    rintro M' ⟨m', w'⟩
    unfold F_X9_days_s41
    dsimp only
    rw [if_pos (nI_le (Nat.le_refl _) (by omega))])
  exact ⟨M2, e2, c2, w2⟩
theorem A_days (hc : CI M p g s L E I R T f) (hm : MI M g s L E I R T f) (hr : Rm M m) (hm5 : m < 512) (x : Int32) : AF m (F_X8_days 0 x M) (F_X9_days 67 x) := by
  obtain ⟨k1, k2⟩ := keep_room hr hm5
  -- refused
  have refuse : F_X8_days 0 x M = some (-1, stI M 57 1 (R 1 + 1)) → (∀ N, ZI N g s L E I R T f → pI N 9 67 0 0 = some N → F_X9_days 67 x N = (bd2 (F_X9_refuses 67 1 N) fun a b => some (a, b))) → AF m (F_X8_days 0 x M) (F_X9_days 67 x) := by
    intro e1 e2
    obtain ⟨-, -, c1, -⟩ := C_ref hc (k := 1) (by omega)
    have m1 : MI (stI M 57 1 (R 1 + 1)) g s L E I R T f := hm.ref hc
    obtain ⟨e0, z0, w0⟩ := m1.zero
    obtain ⟨M2, e3, z3, w3⟩ := M_ref1 z0
    refine AF.mk hr e1 c1 (by show M.1.length ≤ _; omega) (by show mS M ≤ _; omega) ?_ z3.1 (w0.trans w3)
    have eN : pI (stI (stI M 57 1 (R 1 + 1)) 67 0 0) 9 67 0 0 = some (stI (stI M 57 1 (R 1 + 1)) 67 0 0) := by
      rw [Ls_67 z0.lay]
      congr 1
      rw [stI_R, mI_steq]
      unfold stR
      have : ∀ N : Mem, (N.1, rw1 N.2.1 67 (upg (upg (mI M 67) 0 0) 0 0), N.2.2) = (N.1, rw1 N.2.1 67 (upg (upg (mI M 67) 0 0) 0 0), N.2.2) := fun _ => rfl
      show (_, rw1 (rw1 _ 67 (upg (mI (stI M 57 1 (R 1 + 1)) 67) 0 0)) 67 (upg (upg (mI (stI M 57 1 (R 1 + 1)) 67) 0 0) 0 0), _) = (_, rw1 _ 67 (upg (mI (stI M 57 1 (R 1 + 1)) 67) 0 0), _)
      congr 1
      congr 1
      funext k
      unfold rw1
      split
      · funext j; unfold upg; split <;> rfl
      · rfl
    have e4 := e2 _ z0 eN
    rw [e3, bd2_t] at e4
    have e5 : F_X9_days 67 x (stI M 57 1 (R 1 + 1)) = F_X9_days 67 x (stI (stI M 57 1 (R 1 + 1)) 67 0 0) := by
      unfold F_X9_days; rw [e0, eN]
    rw [e5]; exact e4
  rcases ncase x 1 20 (by omega) (by omega) with ⟨n, n1, n2, rfl⟩ | hx
  · have dd := hc.2.2.2.2.2.2.1.1
    have ed : (sDay s + nI n).toInt = (sDay s).toInt + n := by
      unfold bnd at dd
      rw [ti_add (by rw [nI_toInt (by omega)]; omega) (by rw [nI_toInt (by omega)]; omega), nI_toInt (by omega)]
    have eC : ¬ nI n < (1 : Int32) := nI_nlt (b := 1) n1 (by omega)
    have eC2 : ¬ (20 : Int32) < nI n := nI_nlt (a := 20) n2 (by omega)
    have g24 : gI M 6 24 0 = some (sDay s) := by rw [gI_t hc.2.2.2.2.2.1.1.1, hc.2.2.2.2.2.1.2.1]
    by_cases hday : (sDay s + nI n) ≤ (999 : Int32)
    · have hday' : (sDay s).toInt + n ≤ 999 := by rw [ti_le, ed] at hday; exact hday
      obtain ⟨M3, e3, c3, w3, l3, s3⟩ := C_keep hc k1 k2
      obtain ⟨M4, e4, c4, w4, l4, s4⟩ := C_passn c3 n2 hday'
      have m4 : MI M4 g s L E I R T f := hm.fr c4.1 fun k a b => (w4 k a (by omega)).trans (w3 k a (by omega))
      obtain ⟨e0, z0, w0⟩ := m4.zero
      obtain ⟨M5, e5, z5, w5⟩ := M_keep z0
      obtain ⟨M6, e6, z6, w6⟩ := M_passn z5 n2 hday'
      refine AF.mk (v := sDay (passN g n s)) hr ?_ c4 (by rw [l4]; omega) (by rw [s4]; omega) (M2 := M6) ?_ z6.1 ((w0.trans w5).trans w6)
      · unfold F_X8_days
        rw [if_neg eC, if_neg eC2, Lp_0_4 hc.1, ob_t, g24, ob_t, if_pos hday, Lp_0_6 hc.1, ob_t, ob_t, Lc_38 hc.1, e3, ob_t, Lp_0_4 c3.1, ob_t, Lc_0 c3.1, e4, ob_t, Lp_0_4 c4.1, ob_t, gI_t c4.2.2.2.2.2.1.1.1, ob_t, c4.2.2.2.2.2.1.2.1]
      · unfold F_X9_days
        have ew : F_X9_within (nI n) 1 20 (stI M4 67 0 0) = some 1 := F_within (x := 0) (a := 1) (b := 20) (by omega) (by omega) n1 n2
        rw [e0, ob_t, ew, ob_t, if_neg (by decide), Lp_67_41 z0.lay, ob_t, z0.z.day, ob_t, if_pos hday, Lc_67 z0.lay, e5, ob_t, e6, ob_t, Lp_67_41 z6.lay, ob_t, z6.z.day, ob_t]
    · refine refuse ?_ (fun N zN eN => ?_)
      · unfold F_X8_days
        rw [if_neg eC, if_neg eC2, Lp_0_4 hc.1, ob_t, g24, ob_t, if_neg hday, Lc_0 hc.1, ref1 hc, bd2_t]
      · unfold F_X9_days
        have ew : F_X9_within (nI n) 1 20 N = some 1 := F_within (x := 0) (a := 1) (b := 20) (by omega) (by omega) n1 n2
        rw [eN, ob_t, ew, ob_t, if_neg (by decide), Lp_67_41 zN.lay, ob_t, zN.z.day, ob_t, if_neg hday, Lc_67 zN.lay]
  · refine refuse ?_ (fun N zN eN => ?_)
    · unfold F_X8_days
      by_cases h0 : x < (1 : Int32)
      · rw [if_pos h0, Lc_0 hc.1, ref1 hc, bd2_t]
      · rw [if_neg h0, if_pos (show (20 : Int32) < x from hx.resolve_left h0), Lc_0 hc.1, ref1 hc, bd2_t]
    · unfold F_X9_days
      have ew : F_X9_within x 1 20 N = some 0 := F_within' (a := 1) (b := 20) hx
      rw [eN, ob_t, ew, ob_t, if_pos rfl, Lc_67 zN.lay]
end
