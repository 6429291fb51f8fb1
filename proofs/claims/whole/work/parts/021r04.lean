/-! ===== a text is read: the reference, houses ===== -/
section
variable {M M' N N' N1 N2 : Mem} {B : Nat → Nat} {n q t : Nat} {X Y : Nat → Nat → Prop} {G : Gt}
def FtM (N : Mem) (k a : Nat) : Prop := Lay N ∧ mI N 67 13 = nI k ∧ mI N 67 14 = nI a ∧ 1 ≤ k ∧ k ≤ 5
def GoM (N : Mem) : Prop := mI N 67 13 = 0 ∧ mI N 67 14 = -1
def StM (B : Nat → Nat) (n : Nat) (N : Mem) : RsT → Prop
  | .inl q => TkM B n q N ∧ GoM N
  | .inr f => FtM N f.1 f.2
def XF (k j : Nat) : Prop := k = 67 ∧ (j = 13 ∨ j = 14 ∨ (17 ≤ j ∧ j ≤ 22))
theorem XM_F {k j : Nat} (h : XM k j) : XF k j := by unfold XM at h; unfold XF; omega
theorem StM.lay {s : RsT} (h : StM B n N s) : Lay N := by
  cases s with
  | inl q => exact h.1.1.1
  | inr f => exact h.1
theorem StM.st {s : RsT} {k j : Nat} {v : Int32} (h : StM B n N s) (hk : (k ≠ 67 ∧ k ≠ 73) ∨ (k = 67 ∧ 23 ≤ j)) : StM B n (stI N k j v) s := by
  have w : Fr (fun k' j' => k' = k ∧ j' = j) N (stI N k j v) := Fr.rfl'.st ⟨rfl, rfl⟩
  cases s with
  | inl q => exact ⟨h.1.fr w rfl (fun j' hj => by omega) (fun i => by omega), ⟨(w.at (by omega)).trans h.2.1, (w.at (by omega)).trans h.2.2⟩⟩
  | inr f => exact ⟨h.1.st, (w.at (by omega)).trans h.2.1, (w.at (by omega)).trans h.2.2.1, h.2.2.2⟩
theorem M_g1 (L : Lay N) (h : GoM N) : F_X9_isGood 67 N = some 1 := by unfold F_X9_isGood; rw [Lf_67 L, ob_t, h.1, if_pos rfl]
theorem FtM.bad {k a : Nat} (h : FtM N k a) : F_X9_isGood 67 N = some 0 := M_bad h.1 (by rw [h.2.1]; exact neL0 (by have := h.2.2.2; omega) (by have := h.2.2.2; omega))
theorem FtM.nz {k a : Nat} (h : FtM N k a) : ¬ mI N 67 13 = 0 := by rw [h.2.1]; exact neL0 (by have := h.2.2.2; omega) (by have := h.2.2.2; omega)
theorem M_wr {k : Nat} (s : TkM B n q N) (h : GoM N) (h1 : 1 ≤ k) (h5 : k ≤ 5) : ∃ N', F_X9_wrong 67 (nI k) N = some N' ∧ FtM N' k (plT B n q) ∧ Fr XF N N' := by
  have L := s.1.1
  refine ⟨stI (stI N 67 13 (nI k)) 67 14 (nI (plT B n q)), ?_, ⟨L.st.st, by rw [mI_sn (by omega), mI_se], mI_se, h1, h5⟩, (Fr.rfl'.st (by unfold XF; omega)).st (by unfold XF; omega)⟩
  unfold F_X9_wrong
  rw [Lf_67 L, ob_t, h.1, if_pos rfl, Ls_67 L, ob_t, Lf_67 L.st, ob_t, mI_sn (by omega), s.2.2.2.1, Ls_67 L.st, ob_t]
theorem M_ad (s : TkM B n q N) (h : GoM N) : ∃ N', F_X9_takes 67 N = some N' ∧ StM B n N' (.inl (enT B n q)) ∧ Fr XF N N' := by
  obtain ⟨N', e, k, w⟩ := s.take
  exact ⟨N', e, ⟨k, (w.at (by unfold XM; omega)).trans h.1, (w.at (by unfold XM; omega)).trans h.2⟩, w.mono fun _ _ => XM_F⟩
theorem M_number {lo hi : Nat} (hl9 : lo ≤ 9999) (hi9 : hi ≤ 9999) {s : RsT} (c : StM B n N s) : ∃ x N', F_X9_number 67 (nI lo) (nI hi) N = some (x, N') ∧ StM B n N' (numS B n lo hi s) ∧ Fr XF N N' ∧ (∀ q q', s = .inl q → numS B n lo hi s = .inl q' → x = nvT B n q) := by
  have L := c.lay
  cases s with
  | inr f =>
    refine ⟨0, N, ?_, c, Fr.rfl', fun q q' e => by cases e⟩
    unfold F_X9_number
    rw [Lc_67 L, FtM.bad c, ob_t, if_pos rfl]
  | inl q =>
    obtain ⟨k, h⟩ := c
    have hq := k.2.1
    have bad : ∀ w : Nat, 1 ≤ w → w ≤ 5 → numS B n lo hi (.inl q) = .inr (w, plT B n q) → ∃ x N', (F_X9_wrong 67 (nI w) N).bind (fun M13 => F_X9_number_j54 67 M13) = some (x, N') ∧ StM B n N' (numS B n lo hi (.inl q)) ∧ Fr XF N N' ∧ (∀ q0 q', (Sum.inl q : RsT) = .inl q0 → numS B n lo hi (.inl q) = .inl q' → x = nvT B n q0) := fun w h1 h5 e => by
      obtain ⟨N', e1, f1, w1⟩ := M_wr k h h1 h5
      refine ⟨mI N' 67 21, N', ?_, by rw [e]; exact f1, w1, fun q0 q' _ e' => by rw [e] at e'; cases e'⟩
      rw [e1, ob_t]
      unfold F_X9_number_j54
      rw [Lf_67 f1.1, ob_t, Lc_67 f1.1, f1.bad, ob_t, if_pos rfl]
    unfold F_X9_number
    rw [Lc_67 L, M_g1 L h, ob_t, if_neg (by decide), Lf_67 L, ob_t, k.sr]
    by_cases k3 : cdT B n q = 17 ∨ 1000 ≤ cdT B n q
    · rw [if_pos ((sr_2 hq k.b).mpr k3), Lf_67 L, ob_t]
      have cl := cd_le hq k.b
      have j49 : ¬ okN lo hi (cdT B n q) → ∃ x N', F_X9_number_j49 67 N = some (x, N') ∧ StM B n N' (numS B n lo hi (.inl q)) ∧ Fr XF N N' ∧ (∀ q0 q', (Sum.inl q : RsT) = .inl q0 → numS B n lo hi (.inl q) = .inl q' → x = nvT B n q0) := fun ok => by
        unfold F_X9_number_j49
        rw [Lc_67 L, show (2 : Int32) = nI 2 from rfl]
        exact bad 2 (by omega) (by omega) (num_n ok k3)
      by_cases c17 : cdT B n q = 17
      · rw [if_pos (Int32.not_le.mp fun y => ((k.lon k3).mp y) c17)]
        exact j49 (by unfold okN; omega)
      · have v := k.val (by omega)
        rw [if_neg (Int32.not_lt.mpr ((k.lon k3).mpr c17)), Lf_67 L, ob_t, v]
        by_cases ok : okN lo hi (cdT B n q)
        · obtain ⟨N', e1, s1, w1⟩ := M_ad k h
          have ok' := ok
          unfold okN at ok'
          rw [if_neg (nI_nlt (by omega) (by omega)), ob_t, if_pos (nI_le (by omega) (by omega))]
          refine ⟨nI (cdT B n q - 1000), N', ?_, by rw [num_y ok]; exact s1, w1, fun q0 q' e _ => by cases e; rfl⟩
          unfold F_X9_number_j54
          rw [Lf_67 L, ob_t, v, Lc_67 L, M_g1 L h, ob_t, if_neg (by decide), Lc_67 L, e1, ob_t]
        · by_cases lt : cdT B n q - 1000 < lo
          · rw [if_pos (nI_lt lt (by omega))]; exact j49 ok
          · rw [if_neg (nI_nlt (by omega) (by omega)), ob_t, if_neg (nI_ge (by unfold okN at ok; omega) (by omega))]
            exact j49 ok
    · rw [if_neg (fun y => k3 ((sr_2 hq k.b).mp y)), Lc_67 L, show (1 : Int32) = nI 1 from rfl]
      exact bad 1 (by omega) (by omega) (num_w k3)
def WhG (N : Mem) (G : Gt) (h : Nat) : Prop := (∃ i, i < tP G ∧ tHom G i = nI h ∧ mI N 79 (19 + h) = nI i) ∨ ((∀ i, i < tP G → tHom G i ≠ nI h) ∧ mI N 79 (19 + h) = -1)
def RlL (N : Mem) (x : Int32) (o : Option (List Int32)) (s : Nat) : Prop := (x = -1 ∧ o = none) ∨ ∃ (k : Nat) (l : List Int32), x = nI k ∧ o = some l ∧ lyM (mI N 80) (l.map toM) k ∧ k + lenM (l.map toM) < s
def DrM (N : Mem) (G : Gt) (q : Nat) : Prop := (mI N 67 24 = nI (tH G) ∧ mI N 67 25 = nI (tP G) ∧ mI N 67 26 = nI (tD G)) ∧ (∀ h, h < tH G → mI N 79 (3 + h) = tSiz G h ∧ mI N 75 h = tGiv G h ∧ mI N 76 h = tStr G h ∧ mI N 79 (11 + h) = 0 ∧ WhG N G h) ∧ (∀ i, i < tP G → mI N 79 (27 + i) = tHee G i ∧ mI N 77 i = tGro G i ∧ mI N 79 (35 + i) = 0) ∧ (∀ i, i < tD G → mI N 78 i = tDam G i) ∧ (mI N 79 0 = 0 ∧ mI N 79 1 = 0 ∧ mI N 79 2 = 0) ∧ ∃ s, mI N 67 29 = nI s ∧ s ≤ 2 * q ∧ RlL N (mI N 67 27) (tEas G) s ∧ RlL N (mI N 67 28) (tBur G) s
def LnM (B : Nat → Nat) (n : Nat) (N : Mem) : RlT → Prop
  | .inl (G, q) => (TkM B n q N ∧ GoM N) ∧ DrM N G q
  | .inr f => FtM N f.1 f.2
theorem RlL.g {x : Int32} {o : Option (List Int32)} {s : Nat} (h : RlL N x o s) (e : mI N' 80 = mI N 80) : RlL N' x o s := by
  rcases h with h | ⟨k, l, h1, h2, h3, h4⟩
  · exact Or.inl h
  · exact Or.inr ⟨k, l, h1, h2, by rw [e]; exact h3, h4⟩
def XB (k j : Nat) : Prop := XF k j ∨ (k = 67 ∧ 24 ≤ j ∧ j ≤ 26) ∨ (75 ≤ k ∧ k ≤ 79)
theorem XF_B {k j : Nat} (h : XF k j) : XB k j := Or.inl h
theorem M_rHouse (g : GdG G) (hq0 : q ≤ n) (d : DrM N G q) (c : StM B n N (.inl (enT B n q))) (hH : tH G < 8) : ∃ N', F_X9_readsHouse 67 N = some N' ∧ LnM B n N' (hsL B n G q) ∧ Fr XB N N' := by
  obtain ⟨d1, d2, d3, d4, d5, s, d6, d7, d8, d9⟩ := d
  have L := c.lay
  obtain ⟨x1, N2, e2, s2, w2, v1⟩ := M_number (lo := 1) (hi := 60) (by omega) (by omega) c
  have s2' := s2.st (k := 79) (j := 3 + tH G) (v := x1) (by omega)
  obtain ⟨x2, N3, e3, s3, w3, v2⟩ := M_number (lo := 0) (hi := 9) (by omega) (by omega) s2'
  have s3' := s3.st (k := 75) (j := tH G) (v := x2) (by omega)
  obtain ⟨x3, N4, e4, s4, w4, v3⟩ := M_number (lo := 0) (hi := 30) (by omega) (by omega) s3'
  have s4' := ((s4.st (k := 76) (j := tH G) (v := x3) (by omega)).st (k := 79) (j := 11 + tH G) (v := 0) (by omega)).st (k := 79) (j := 19 + tH G) (v := -1) (by omega)
  have L2 := s2.lay
  have L3 := s3.lay
  have L4 := s4.lay
  have nF : ∀ k j, k ≠ 67 → ¬ XF k j := fun k j hk y => hk y.1
  have o2 : ∀ k, k ≠ 67 → mI N2 k = mI N k := fun k hk => funext fun j => w2.at (nF k j hk)
  have o3 : ∀ k, k ≠ 67 → mI N3 k = mI (stI N2 79 (3 + tH G) x1) k := fun k hk => funext fun j => w3.at (nF k j hk)
  have o4 : ∀ k, k ≠ 67 → mI N4 k = mI (stI N3 75 (tH G) x2) k := fun k hk => funext fun j => w4.at (nF k j hk)
  have f7 : ∀ j, 23 ≤ j → mI N4 67 j = mI N 67 j := fun j hj => by
    rw [w4.at (by unfold XF; omega), mI_sn (by omega), w3.at (by unfold XF; omega), mI_sn (by omega), w2.at (by unfold XF; omega)]
  generalize hS : stI (stI (stI N4 76 (tH G) x3) 79 (11 + tH G) 0) 79 (19 + tH G) (-1) = S at s4'
  have fS : Fr XB N S := by
    rw [← hS]
    exact (((((((((w2.mono fun _ _ => XF_B).st (b := 79) (j := 3 + tH G) (v := x1) (Or.inr (by omega))).trans (w3.mono fun _ _ => XF_B)).st (b := 75) (j := tH G) (v := x2) (Or.inr (by omega))).trans (w4.mono fun _ _ => XF_B)).st (b := 76) (j := tH G) (v := x3) (Or.inr (by omega))).st (b := 79) (j := 11 + tH G) (v := 0) (Or.inr (by omega))).st (b := 79) (j := 19 + tH G) (v := -1) (Or.inr (by omega))))
  have e2' : F_X9_number 67 (1 : Int32) (60 : Int32) N = some (x1, N2) := e2
  have e3' : F_X9_number 67 (0 : Int32) (9 : Int32) (stI N2 79 (3 + tH G) x1) = some (x2, N3) := e3
  have e4' : F_X9_number 67 (0 : Int32) (30 : Int32) (stI N3 75 (tH G) x2) = some (x3, N4) := e4
  have LS := s4'.lay
  unfold F_X9_readsHouse
  rw [Lf_67 L, ob_t, d1.1, Lp_67_37 L, ob_t, Lc_67 L, e2', bd2_t, show (3 : Int32) + nI (tH G) = nI (3 + tH G) from nI_add 3 _, Lw_79 L2 (by omega), ob_t, Lp_67_33 L2.st, ob_t, Lc_67 L2.st, e3', bd2_t, Lw_75 L3 hH, ob_t, Lp_67_34 L3.st, ob_t, Lc_67 L3.st, e4', bd2_t, Lw_76 L4 hH, ob_t, Lp_67_37 L4.st, ob_t, show (11 : Int32) + nI (tH G) = nI (11 + tH G) from nI_add 11 _, Lw_79 L4.st (by omega), ob_t, Lp_67_37 L4.st.st, ob_t, show (19 : Int32) + nI (tH G) = nI (19 + tH G) from nI_add 19 _, Lw_79 L4.st.st (by omega), ob_t, hS, Lc_67 LS]
  unfold hsL
  rw [if_neg (by omega)]
  cases hs : numS B n 0 30 (numS B n 0 9 (numS B n 1 60 (.inl (enT B n q)))) with
  | inr f =>
    rw [hs] at s4'
    rw [FtM.bad s4', ob_t, if_pos rfl]
    exact ⟨S, rfl, s4', fS⟩
  | inl q4 =>
    rw [hs] at s4'
    obtain ⟨q3, g3, k3, z3⟩ := num_i hs
    obtain ⟨q2, g2, k2, z2⟩ := num_i g3
    obtain ⟨q1, g1, k1, z1⟩ := num_i g2
    have g1' := Sum.inl.inj g1
    subst g1'
    subst z1
    subst z2
    have y1 := v1 _ _ rfl g2
    have y2 := v2 _ _ g2 g3
    have y3 := v3 _ _ g3 hs
    have a0 := (en_le (B := B) hq0)
    have ap := (pl_le (B := B) hq0)
    have a1 := ok_e a0.2 k1
    have a2 := ok_e a1.2 k2
    have a3 := ok_e a2.2 k3
    rw [M_g1 LS s4'.2, ob_t, if_neg (by decide), Lf_67 LS, ob_t, show mI S 67 24 = nI (tH G) by rw [← hS, mI_sn (by omega), mI_sn (by omega), mI_sn (by omega), f7 24 (by omega)]; exact d1.1, nI_1, Ls_67 LS, ob_t]
    have v79 : ∀ j, j ≠ 3 + tH G → j ≠ 11 + tH G → j ≠ 19 + tH G → mI S 79 j = mI N 79 j := fun j j1 j2 j3 => by
      rw [← hS, mI_sn (by omega), mI_sn (by omega), mI_sn (by omega), o4 79 (by omega), mI_sn (by omega), o3 79 (by omega), mI_sn (by omega), o2 79 (by omega)]
    have vk : ∀ k, k ≠ 67 → k ≠ 75 → k ≠ 76 → k ≠ 79 → mI S k = mI N k := fun k h1 h2 h3 h4 => by
      funext j
      rw [← hS, mI_sn (by omega), mI_sn (by omega), mI_sn (by omega), o4 k h1, mI_sn (by omega), o3 k h1, mI_sn (by omega), o2 k h1]
    have v67 : ∀ j, 23 ≤ j → mI S 67 j = mI N 67 j := fun j hj => by rw [← hS, mI_sn (by omega), mI_sn (by omega), mI_sn (by omega), f7 j hj]
    refine ⟨stI S 67 24 (nI (tH G + 1)), rfl, ⟨s4'.st (by omega), ⟨mI_se, by rw [mI_sn (by omega), v67 25 (by omega)]; exact d1.2.1, by rw [mI_sn (by omega), v67 26 (by omega)]; exact d1.2.2⟩, fun h hh => ?_, fun i hi => ?_, fun i hi => ?_, ⟨?_, ?_, ?_⟩, s, by rw [mI_sn (by omega), v67 29 (by omega)]; exact d6, by omega, ?_, ?_⟩, fS.st (Or.inr (by omega))⟩
    · have hh : h < tH G + 1 := hh
      rw [mI_sn (by omega), mI_sn (by omega), mI_sn (by omega), mI_sn (by omega)]
      show _ = upg (tSiz G) (tH G) _ h ∧ _ = upg (tGiv G) (tH G) _ h ∧ _ = upg (tStr G) (tH G) _ h ∧ _
      by_cases e : h = tH G
      · subst e
        rw [upg_eq, upg_eq, upg_eq]
        refine ⟨?_, ?_, ?_, ?_, Or.inr ⟨fun i hi y => ?_, ?_⟩⟩
        · rw [← hS, mI_sn (by omega), mI_sn (by omega), mI_sn (by omega), o4 79 (by omega), mI_sn (by omega), o3 79 (by omega), mI_se, y1]
        · rw [← hS, mI_sn (by omega), mI_sn (by omega), mI_sn (by omega), o4 75 (by omega), mI_se, y2]
        · rw [← hS, mI_sn (by omega), mI_sn (by omega), mI_se, y3]
        · rw [← hS, mI_sn (by omega), mI_se]
        · have y : tHom G i = nI (tH G) := y
          rcases (g.2.2.1 i hi).2.2 with z | ⟨x, hx, z⟩
          · rw [z] at y; exact nI_nm1 (by omega) y.symm
          · rw [z] at y
            have := (nI_eq (by omega) (by omega)).mp y
            omega
        · rw [mI_sn (by omega), ← hS, mI_se]
      · rw [upg_ne e, upg_ne e, upg_ne e, v79 _ (by omega) (by omega) (by omega), v79 _ (by omega) (by omega) (by omega)]
        obtain ⟨z1, z2, z3, z4, z5⟩ := d2 h (by omega)
        refine ⟨z1, ?_, ?_, z4, ?_⟩
        · rw [← hS, mI_sn (by omega), mI_sn (by omega), mI_sn (by omega), o4 75 (by omega), mI_sn (by omega), o3 75 (by omega), mI_sn (by omega), o2 75 (by omega)]; exact z2
        · rw [← hS, mI_sn (by omega), mI_sn (by omega), mI_sn (by omega), o4 76 (by omega), mI_sn (by omega), o3 76 (by omega), mI_sn (by omega), o2 76 (by omega)]; exact z3
        · have v : mI (stI S 67 24 (nI (tH G + 1))) 79 (19 + h) = mI N 79 (19 + h) := by rw [mI_sn (by omega), v79 _ (by omega) (by omega) (by omega)]
          unfold WhG at z5 ⊢
          rw [v]; exact z5
    · rw [mI_sn (by omega), mI_sn (by omega), mI_sn (by omega), v79 _ (by omega) (by omega) (by omega), v79 _ (by omega) (by omega) (by omega), vk 77 (by omega) (by omega) (by omega) (by omega)]; exact d3 i hi
    · rw [mI_sn (by omega), vk 78 (by omega) (by omega) (by omega) (by omega)]; exact d4 i hi
    · rw [mI_sn (by omega), v79 _ (by omega) (by omega) (by omega)]; exact d5.1
    · rw [mI_sn (by omega), v79 _ (by omega) (by omega) (by omega)]; exact d5.2.1
    · rw [mI_sn (by omega), v79 _ (by omega) (by omega) (by omega)]; exact d5.2.2
    · rw [mI_sn (by omega), v67 27 (by omega)]
      exact d8.g (by rw [mI_stne (by omega), vk 80 (by omega) (by omega) (by omega) (by omega)])
    · rw [mI_sn (by omega), v67 28 (by omega)]
      exact d9.g (by rw [mI_stne (by omega), vk 80 (by omega) (by omega) (by omega) (by omega)])
end
