/-! ===== a text is read: the reference, people and damp ===== -/
section
variable {M M' N N' N1 N2 : Mem} {B : Nat → Nat} {n q t : Nat} {X Y : Nat → Nat → Prop} {G : Gt}
theorem M_j161 (L : Lay N) (h : GoM N) {P : Nat} (h25 : mI N 67 25 = nI P) : F_X9_readsPerson_j161 67 N = some (stI N 67 25 (nI (P + 1))) := by
  unfold F_X9_readsPerson_j161
  rw [Lc_67 L, M_g1 L h, ob_t, if_neg (by decide), Lf_67 L, ob_t, h25, nI_1, Ls_67 L, ob_t]
theorem M_j161' {k a : Nat} (h : FtM N k a) : F_X9_readsPerson_j161 67 N = some N := by
  unfold F_X9_readsPerson_j161
  rw [Lc_67 h.1, h.bad, ob_t, if_pos rfl]
theorem M_j136' {k a : Nat} {x : Int32} (h : FtM N k a) : F_X9_readsPerson_j136 67 x N = some N := by
  unfold F_X9_readsPerson_j136
  rw [Lc_67 h.1, h.bad, ob_t, if_pos rfl]
theorem M_rPerson (g : GdG G) (hq0 : q ≤ n) (d : DrM N G q) (c : StM B n N (.inl (enT B n q))) (hH : tP G < 8) : ∃ N', F_X9_readsPerson 67 N = some N' ∧ LnM B n N' (psL B n G q) ∧ Fr XB N N' := by
  obtain ⟨d1, d2, d3, d4, d5, s, d6, d7, d8, d9⟩ := d
  have L := c.lay
  have h8 := g.1.1
  obtain ⟨x1, N2, e2, s2, w2, v1⟩ := M_number (lo := 1) (hi := 60) (by omega) (by omega) c
  have s2' := s2.st (k := 79) (j := 27 + tP G) (v := x1) (by omega)
  obtain ⟨x2, N3, e3, s3, w3, v2⟩ := M_number (lo := 0) (hi := 9) (by omega) (by omega) s2'
  have s3' := (s3.st (k := 77) (j := tP G) (v := x2) (by omega)).st (k := 79) (j := 35 + tP G) (v := 0) (by omega)
  have L2 := s2.lay
  have L3 := s3.lay
  have nF : ∀ k j, k ≠ 67 → ¬ XF k j := fun k j hk y => hk y.1
  have o2 : ∀ k, k ≠ 67 → mI N2 k = mI N k := fun k hk => funext fun j => w2.at (nF k j hk)
  have o3 : ∀ k, k ≠ 67 → mI N3 k = mI (stI N2 79 (27 + tP G) x1) k := fun k hk => funext fun j => w3.at (nF k j hk)
  have f7 : ∀ j, 23 ≤ j → mI N3 67 j = mI N 67 j := fun j hj => by
    rw [w3.at (by unfold XF; omega), mI_sn (by omega), w2.at (by unfold XF; omega)]
  generalize hS : stI (stI N3 77 (tP G) x2) 79 (35 + tP G) 0 = S at s3'
  have fS : Fr XB N S := by
    rw [← hS]
    exact ((((w2.mono fun _ _ => XF_B).st (b := 79) (j := 27 + tP G) (v := x1) (Or.inr (by omega))).trans (w3.mono fun _ _ => XF_B)).st (b := 77) (j := tP G) (v := x2) (Or.inr (by omega))).st (b := 79) (j := 35 + tP G) (v := 0) (Or.inr (by omega))
  have e2' : F_X9_number 67 (1 : Int32) (60 : Int32) N = some (x1, N2) := e2
  have e3' : F_X9_number 67 (0 : Int32) (9 : Int32) (stI N2 79 (27 + tP G) x1) = some (x2, N3) := e3
  have LS := s3'.lay
  have v79 : ∀ j, j ≠ 27 + tP G → j ≠ 35 + tP G → mI S 79 j = mI N 79 j := fun j j1 j2 => by
    rw [← hS, mI_sn (by omega), mI_sn (by omega), o3 79 (by omega), mI_sn (by omega), o2 79 (by omega)]
  have vk : ∀ k, k ≠ 67 → k ≠ 77 → k ≠ 79 → mI S k = mI N k := fun k h1 h2 h3 => by
    funext j
    rw [← hS, mI_sn (by omega), mI_sn (by omega), o3 k h1, mI_sn (by omega), o2 k h1]
  have v67 : ∀ j, 23 ≤ j → mI S 67 j = mI N 67 j := fun j hj => by rw [← hS, mI_sn (by omega), mI_sn (by omega), f7 j hj]
  unfold F_X9_readsPerson
  rw [Lf_67 L, ob_t, d1.2.1, Lp_67_37 L, ob_t, Lc_67 L, e2', bd2_t, show (27 : Int32) + nI (tP G) = nI (27 + tP G) from nI_add 27 _, Lw_79 L2 (by omega), ob_t, Lp_67_35 L2.st, ob_t, Lc_67 L2.st, e3', bd2_t, Lw_77 L3 hH, ob_t, Lp_67_37 L3.st, ob_t, show (35 : Int32) + nI (tP G) = nI (35 + tP G) from nI_add 35 _, Lw_79 L3.st (by omega), ob_t, hS, Lc_67 LS]
  unfold psL
  rw [if_neg (by omega)]
  have a0 := (en_le (B := B) hq0)
  have ap := (pl_le (B := B) hq0)
  -- what a line that is right leaves
  have fin : ∀ (S' : Mem) (hv : Int32) (q' : Nat), Lay S' → GoM S' → Fr XB N S' → StM B n S' (.inl q') → q ≤ q' → (∀ k, k ≠ 67 → k ≠ 79 → mI S' k = mI S k) → (∀ j, (j < 19 ∨ 27 ≤ j) → mI S' 79 j = mI S 79 j) → (∀ j, 23 ≤ j → mI S' 67 j = mI N 67 j) → (∀ h, h < tH G → (hv = nI h ∧ mI S' 79 (19 + h) = nI (tP G)) ∨ (hv ≠ nI h ∧ mI S' 79 (19 + h) = mI N 79 (19 + h))) → x1 = nvT B n (enT B n q) → x2 = nvT B n (enT B n (enT B n q)) → ∃ N', F_X9_readsPerson_j161 67 S' = some N' ∧ LnM B n N' (.inl ((tH G, tP G + 1, tD G, tSiz G, tGiv G, tStr G, upg (tHee G) (tP G) (nvT B n (enT B n q)), upg (tGro G) (tP G) (nvT B n (enT B n (enT B n q))), upg (tHom G) (tP G) hv, tDam G, tEas G, tBur G), q')) ∧ Fr XB N N' := fun S' hv q' L' h13 f' st hqq k1 k2 k3 k4 y1 y2 => by
    refine ⟨stI S' 67 25 (nI (tP G + 1)), M_j161 L' h13 (by rw [k3 25 (by omega)]; exact d1.2.1), ⟨st.st (by omega), ⟨by rw [mI_sn (by omega), k3 24 (by omega)]; exact d1.1, mI_se, by rw [mI_sn (by omega), k3 26 (by omega)]; exact d1.2.2⟩, fun h hh => ?_, fun i hi => ?_, fun i hi => ?_, ⟨?_, ?_, ?_⟩, s, by rw [mI_sn (by omega), k3 29 (by omega)]; exact d6, by omega, ?_, ?_⟩, f'.st (Or.inr (by omega))⟩
    · have hh : h < tH G := hh
      rw [mI_sn (by omega), mI_sn (by omega), mI_sn (by omega), mI_sn (by omega), k2 _ (by omega), k2 _ (by omega), k1 75 (by omega) (by omega), k1 76 (by omega) (by omega), v79 _ (by omega) (by omega), v79 _ (by omega) (by omega), vk 75 (by omega) (by omega) (by omega), vk 76 (by omega) (by omega) (by omega)]
      obtain ⟨z1, z2, z3, z4, z5⟩ := d2 h hh
      refine ⟨z1, z2, z3, z4, ?_⟩
      unfold WhG
      show (∃ i, i < tP G + 1 ∧ upg (tHom G) (tP G) hv i = nI h ∧ mI (stI S' 67 25 (nI (tP G + 1))) 79 (19 + h) = nI i) ∨ ((∀ i, i < tP G + 1 → upg (tHom G) (tP G) hv i ≠ nI h) ∧ mI (stI S' 67 25 (nI (tP G + 1))) 79 (19 + h) = -1)
      rw [mI_sn (by omega)]
      rcases k4 h hh with ⟨u1, u2⟩ | ⟨u1, u2⟩
      · exact Or.inl ⟨tP G, by omega, by rw [upg_eq]; exact u1, u2⟩
      · rw [u2]
        rcases z5 with ⟨i, i1, i2, i3⟩ | ⟨i1, i2⟩
        · exact Or.inl ⟨i, by omega, by rw [upg_ne (by omega)]; exact i2, i3⟩
        · refine Or.inr ⟨fun i hi => ?_, i2⟩
          by_cases e : i = tP G
          · rw [e, upg_eq]; exact u1
          · rw [upg_ne e]; exact i1 i (by omega)
    · have hi : i < tP G + 1 := hi
      rw [mI_sn (by omega), mI_sn (by omega), mI_sn (by omega), k2 _ (by omega), k2 _ (by omega), k1 77 (by omega) (by omega)]
      show _ = upg (tHee G) (tP G) _ i ∧ _ = upg (tGro G) (tP G) _ i ∧ _
      by_cases e : i = tP G
      · subst e
        rw [upg_eq, upg_eq, ← hS]
        refine ⟨?_, ?_, ?_⟩
        · rw [mI_sn (by omega), mI_sn (by omega), o3 79 (by omega), mI_se, y1]
        · rw [mI_sn (by omega), mI_se, y2]
        · rw [mI_se]
      · rw [upg_ne e, upg_ne e, v79 _ (by omega) (by omega), v79 _ (by omega) (by omega), ← hS, mI_sn (by omega), mI_sn (by omega), o3 77 (by omega), mI_sn (by omega), o2 77 (by omega)]
        exact d3 i (by omega)
    · rw [mI_sn (by omega), k1 78 (by omega) (by omega), vk 78 (by omega) (by omega) (by omega)]; exact d4 i hi
    · rw [mI_sn (by omega), k2 _ (by omega), v79 _ (by omega) (by omega)]; exact d5.1
    · rw [mI_sn (by omega), k2 _ (by omega), v79 _ (by omega) (by omega)]; exact d5.2.1
    · rw [mI_sn (by omega), k2 _ (by omega), v79 _ (by omega) (by omega)]; exact d5.2.2
    · rw [mI_sn (by omega), k3 27 (by omega)]
      exact d8.g (by rw [mI_stne (by omega), k1 80 (by omega) (by omega), vk 80 (by omega) (by omega) (by omega)])
    · rw [mI_sn (by omega), k3 28 (by omega)]
      exact d9.g (by rw [mI_stne (by omega), k1 80 (by omega) (by omega), vk 80 (by omega) (by omega) (by omega)])
  cases hs : numS B n 0 9 (numS B n 1 60 (.inl (enT B n q))) with
  | inr f =>
    rw [hs] at s3'
    rw [FtM.bad s3', ob_t, if_pos rfl, M_j161' s3']
    exact ⟨S, rfl, s3', fS⟩
  | inl q3 =>
    rw [hs] at s3'
    obtain ⟨q2, g2, k2, z2⟩ := num_i hs
    obtain ⟨q1, g1, k1, z1⟩ := num_i g2
    have g1' := Sum.inl.inj g1
    subst g1'
    subst z1
    subst z2
    have y1 := v1 _ _ rfl g2
    have y2 := v2 _ _ g2 hs
    have a1 := ok_e a0.2 k1
    have a2 := ok_e a1.2 k2
    have kw : kwI (cdT B n (enT B n (enT B n (enT B n q)))) = (9 : Int32) ↔ cdT B n (enT B n (enT B n (enT B n q))) = 3 := s3'.1.kwe (k := 9) (by omega)
    rw [M_g1 LS s3'.2, ob_t, if_neg (by decide), Lc_67 LS, s3'.1.kw, ob_t]
    dsimp only
    by_cases c3 : cdT B n (enT B n (enT B n (enT B n q))) = 3
    · rw [if_pos (kw.mpr c3), if_pos c3, Lc_67 LS]
      have c3e := cd_en (B := B) a2.2 (by omega : cdT B n (enT B n (enT B n (enT B n q))) ≠ 0)
      obtain ⟨N5, e5, s5, w5⟩ := M_ad s3'.1 s3'.2
      have L5 := s5.lay
      have o5 : ∀ k, k ≠ 67 → mI N5 k = mI S k := fun k hk => funext fun j => w5.at (nF k j hk)
      have p5 : ∀ j, 23 ≤ j → mI N5 67 j = mI N 67 j := fun j hj => by rw [w5.at (by unfold XF; omega), v67 j hj]
      have f5 : Fr XB N N5 := fS.trans (w5.mono fun _ _ => XF_B)
      have hq4 := s5.1.2.1
      rw [e5, ob_t, Lf_67 L5, ob_t, s5.1.sr]
      generalize hq4' : enT B n (enT B n (enT B n (enT B n q))) = q4 at *
      have bad : ∀ k : Nat, 1 ≤ k → k ≤ 5 → homS B n G q4 = .inr (k, plT B n q4) → ∃ N', (F_X9_wrong 67 (nI k) N5).bind (fun M77 => F_X9_readsPerson_j136 67 (nI (tP G)) M77) = some N' ∧ LnM B n N' (withR (homS B n G q4) fun _ => (tH G, tP G + 1, tD G, tSiz G, tGiv G, tStr G, upg (tHee G) (tP G) (nvT B n (enT B n q)), upg (tGro G) (tP G) (nvT B n (enT B n (enT B n q))), upg (tHom G) (tP G) (nvT B n q4), tDam G, tEas G, tBur G)) ∧ Fr XB N N' := fun k h1 h5 e => by
        obtain ⟨N6, e6, f6, w6⟩ := M_wr s5.1 s5.2 h1 h5
        refine ⟨N6, by rw [e6, ob_t, M_j136' f6], by rw [e]; exact f6, f5.trans (w6.mono fun _ _ => XF_B)⟩
      by_cases k3 : cdT B n q4 = 17 ∨ 1000 ≤ cdT B n q4
      · have cl := cd_le hq4 s5.1.b
        rw [if_pos ((sr_2 hq4 s5.1.b).mpr k3), Lf_67 L5, ob_t]
        by_cases c17 : cdT B n q4 = 17
        · rw [if_neg (fun y => (s5.1.lon k3).mp y c17), Lc_67 L5, show (2 : Int32) = nI 2 from rfl]
          exact bad 2 (by omega) (by omega) (by unfold homS; rw [if_neg (fun y => y k3), if_pos c17])
        · have v := s5.1.val (by omega)
          rw [if_pos ((s5.1.lon k3).mpr c17), Lf_67 L5, ob_t, Lf_67 L5, ob_t, v, p5 24 (by omega), d1.1]
          by_cases lt : tH G ≤ cdT B n q4 - 1000
          · rw [if_neg (nI_nlt lt (by omega)), Lc_67 L5, show (3 : Int32) = nI 3 from rfl]
            exact bad 3 (by omega) (by omega) (by unfold homS; rw [if_neg (fun y => y k3), if_neg c17, if_pos lt])
          · have lt' : cdT B n q4 - 1000 < tH G := by omega
            have c79 : mI N5 79 (19 + (cdT B n q4 - 1000)) = mI N 79 (19 + (cdT B n q4 - 1000)) := by rw [o5 79 (by omega), v79 _ (by omega) (by omega)]
            rw [if_pos (nI_lt lt' (by omega)), Lp_67_37 L5, ob_t, ob_t, show (19 : Int32) + nI (cdT B n q4 - 1000) = nI (19 + (cdT B n q4 - 1000)) from nI_add 19 _, La_79 L5 (by omega), ob_t, c79]
            rcases (d2 _ lt').2.2.2.2 with ⟨i, i1, i2, i3⟩ | ⟨i1, i2⟩
            · rw [i3, if_neg (nI_nm1 (by omega)), Lc_67 L5, show (4 : Int32) = nI 4 from rfl]
              exact bad 4 (by omega) (by omega) (by unfold homS; rw [if_neg (fun y => y k3), if_neg c17, if_neg lt, if_pos (show ∃ i, i < tP G ∧ tHom G i = nvT B n q4 from ⟨i, i1, i2⟩)])
            · rw [i2, if_pos rfl]
              have hs4 : homS B n G q4 = .inl (enT B n q4) := by unfold homS; rw [if_neg (fun y => y k3), if_neg c17, if_neg lt, if_neg (show ¬ ∃ i, i < tP G ∧ tHom G i = nvT B n q4 from fun ⟨i, j1, j2⟩ => i1 i j1 j2)]
              rw [hs4]
              have s6 := s5.st (k := 79) (j := 19 + (cdT B n q4 - 1000)) (v := nI (tP G)) (by omega)
              obtain ⟨N7, e7, s7, w7⟩ := M_ad s6.1 s6.2
              have L7 := s7.lay
              have o7 : ∀ k, k ≠ 67 → mI N7 k = mI (stI N5 79 (19 + (cdT B n q4 - 1000)) (nI (tP G))) k := fun k hk => funext fun j => w7.at (nF k j hk)
              have f7' : Fr XB N N7 := (f5.st (b := 79) (j := 19 + (cdT B n q4 - 1000)) (v := nI (tP G)) (Or.inr (by omega))).trans (w7.mono fun _ _ => XF_B)
              have q5 := en_le (B := B) hq4
              have q6 := pl_le (B := B) hq4
              obtain ⟨N8, e8, l8, f8⟩ := fin N7 (nvT B n q4) (enT B n q4) L7 s7.2 f7' s7 (by omega) (fun k k1 k2 => by funext j; rw [o7 k k1, mI_sn (by omega), o5 k k1]) (fun j hj => by rw [o7 79 (by omega), mI_sn (by omega), o5 79 (by omega)]) (fun j hj => by rw [w7.at (by unfold XF; omega), mI_sn (by omega), p5 j hj]) (fun h hh => by
                by_cases e : h = cdT B n q4 - 1000
                · exact Or.inl ⟨by unfold nvT; rw [e], by rw [e, o7 79 (by omega), mI_se]⟩
                · refine Or.inr ⟨fun y => e ((nI_eq (by omega) (by omega)).mp y).symm, ?_⟩
                  rw [o7 79 (by omega), mI_sn (by omega), o5 79 (by omega), v79 _ (by omega) (by omega)]) y1 y2
              refine ⟨N8, ?_, l8, f8⟩
              unfold F_X9_readsPerson_j136
              rw [Lc_67 L5, M_g1 L5 s5.2, ob_t, if_neg (by decide), Lp_67_37 L5, ob_t, Lf_67 L5, ob_t, v, show (19 : Int32) + nI (cdT B n q4 - 1000) = nI (19 + (cdT B n q4 - 1000)) from nI_add 19 _, Lw_79 L5 (by omega), ob_t, Lc_67 L5.st, e7, ob_t, e8]
      · rw [if_neg (fun y => k3 ((sr_2 hq4 s5.1.b).mp y)), Lc_67 L5, show (1 : Int32) = nI 1 from rfl]
        exact bad 1 (by omega) (by omega) (by unfold homS; rw [if_pos k3])
    · rw [if_neg (fun y => c3 (kw.mp y)), if_neg c3]
      exact fin S (-1) _ LS s3'.2 fS s3' (by omega) (fun _ _ _ => rfl) (fun _ _ => rfl) v67 (fun h hh => Or.inr ⟨fun y => nI_nm1 (by omega) y.symm, v79 _ (by omega) (by omega)⟩) y1 y2
end
