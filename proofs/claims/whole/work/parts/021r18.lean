/-! ===== a town: both ===== -/
section
variable {M M' M1 M2 N N' : Mem} {p p' m : Nat} {g : Pg} {s : Sg} {L : List Sg} {E : List Se} {I : Option (Sg × List Sg × List Se)} {R : Nat → Int32} {T : List Nat} {f f' : Int32} {B : Nat → Nat} {n : Nat} {G : Gt} {X Y : Nat → Nat → Prop}
def XV (k j : Nat) : Prop := XW k j ∨ (k = 67 ∧ ((1 ≤ j ∧ j ≤ 5) ∨ j = 43 ∨ j = 51 ∨ j = 56)) ∨ (68 ≤ k ∧ k ≤ 72) ∨ k = 83 ∨ (k = 74 ∧ j = 0)
theorem M_fin {q : Nat} (c : LnM B n N (.inl (G, q))) (gg : GdG G) (h46 : mI N 67 46 = -1) (h12 : mI N 67 12 = 0) (h0 : mI N 67 0 = 0) (h74 : ∀ i, i < 3 → mI N 74 i = R i) : ∃ N', F_X9_town_j133 67 N = some (0, N') ∧ ZI N' (gPl G) (bgN G (tP G)) [] [] none R [] (-1) ∧ Fr XV N N' := by
  obtain ⟨⟨tk, go⟩, d1, d2, d3, d4, d5, s, d6, d7, d8, d9⟩ := c
  have L0 := tk.1.1
  have hn := tk.1.2.1
  have hq := tk.2.1
  have hA : ∃ A, A = stI (stI (stI (stI (stI N 67 1 (mI N 67 24)) 67 2 (mI N 67 25)) 67 3 (mI N 67 26)) 67 4 (mI N 67 27)) 67 5 (mI N 67 28) := ⟨_, rfl⟩
  obtain ⟨A, hA⟩ := hA
  have fA : Fr XV N A := by
    rw [hA]
    exact ((((Fr.rfl'.st (b := 67) (j := 1) (by unfold XV; omega)).st (b := 67) (j := 2) (by unfold XV; omega)).st (b := 67) (j := 3) (by unfold XV; omega)).st (b := 67) (j := 4) (by unfold XV; omega)).st (b := 67) (j := 5) (by unfold XV; omega)
  have LA := L0.fr fA
  have oA : ∀ k, k ≠ 67 → mI A k = mI N k := fun k hk => by rw [hA, mI_stne hk, mI_stne hk, mI_stne hk, mI_stne hk, mI_stne hk]
  have aA : ∀ j, 6 ≤ j ∨ j = 0 → mI A 67 j = mI N 67 j := fun j hj => by rw [hA, mI_sn (by omega), mI_sn (by omega), mI_sn (by omega), mI_sn (by omega), mI_sn (by omega)]
  have vA : mI A 67 1 = nI (tH G) ∧ mI A 67 2 = nI (tP G) ∧ mI A 67 3 = nI (tD G) ∧ mI A 67 4 = mI N 67 27 ∧ mI A 67 5 = mI N 67 28 := by
    rw [hA]
    refine ⟨?_, ?_, ?_, ?_, ?_⟩
    · rw [mI_sn (by omega), mI_sn (by omega), mI_sn (by omega), mI_sn (by omega), mI_se]; exact d1.1
    · rw [mI_sn (by omega), mI_sn (by omega), mI_sn (by omega), mI_se]; exact d1.2.1
    · rw [mI_sn (by omega), mI_sn (by omega), mI_se]; exact d1.2.2
    · rw [mI_sn (by omega), mI_se]
    · rw [mI_se]
  obtain ⟨A1, c1, v1, w1⟩ := M_copies (N := A) (a := 75) (b := 68) (len := 8) (LA.t rfl) (LA.t rfl) (by omega) (by omega)
  have L1 := LA.wr w1
  obtain ⟨A2, c2, v2, w2⟩ := M_copies (N := A1) (a := 76) (b := 69) (len := 8) (L1.t rfl) (L1.t rfl) (by omega) (by omega)
  have L2 := L1.wr w2
  obtain ⟨A3, c3, v3, w3⟩ := M_copies (N := A2) (a := 77) (b := 70) (len := 8) (L2.t rfl) (L2.t rfl) (by omega) (by omega)
  have L3 := L2.wr w3
  obtain ⟨A4, c4, v4, w4⟩ := M_copies (N := A3) (a := 78) (b := 71) (len := 8) (L3.t rfl) (L3.t rfl) (by omega) (by omega)
  have L4 := L3.wr w4
  obtain ⟨A5, c5, v5, w5⟩ := M_copies (N := A4) (a := 80) (b := 72) (len := 1400) (L4.t rfl) (L4.t rfl) (by omega) (by omega)
  have L5 := L4.wr w5
  obtain ⟨C, eC, cC, wC⟩ := loop_mm (step := fun z : Int32 × Mem => F_X9_town_s257 67 z.1 z.2) (fun i M' => (nI i, M')) (fun M' => M') 43 (fun i M' => (∀ j, j < i → mI M' 83 j = mI A5 79 j) ∧ Wr [83] A5 M') (M := A5) ⟨fun j hj => by omega, Wr.rfl'⟩ (by
    rintro i M' hi ⟨h', w'⟩
    have L' := L5.wr w'
    refine ⟨stI M' 83 i (mI A5 79 i), ?_, fun j hj => ?_, w'.st (by decide)⟩
    · unfold F_X9_town_s257
      dsimp only
      rw [if_neg (show ¬ (43 : Int32) ≤ nI i from nI_ge (b := 43) hi (by omega)), Lp_67_41 L', ob_t, Lp_67_37 L', ob_t, La_79 L' hi, ob_t, w'.2.2.2.2 79 (by decide), Lw_83 L' (by omega), ob_t, nI_1]
    · by_cases e : j = i
      · rw [e, mI_se]
      · rw [mI_sn (by omega)]; exact h' j (by omega)) (by
    rintro M' ⟨h', w'⟩
    unfold F_X9_town_s257
    dsimp only
    rw [if_pos (show (43 : Int32) ≤ nI 43 by decide)])
  have LC := L5.wr wC
  have hD : ∃ D, D = stI (stI (stI C 67 43 0) 67 51 0) 67 56 0 := ⟨_, rfl⟩
  obtain ⟨D, hD⟩ := hD
  have LD : Lay D := by rw [hD]; exact LC.st.st.st
  have w15 : ∀ k, k ≠ 68 → k ≠ 69 → k ≠ 70 → k ≠ 71 → k ≠ 72 → mI A5 k = mI A k := fun k h1 h2 h3 h4 h5 => by
    rw [w5.2.2.2.2 k (by simpa using h5), w4.2.2.2.2 k (by simpa using h4), w3.2.2.2.2 k (by simpa using h3), w2.2.2.2.2 k (by simpa using h2), w1.2.2.2.2 k (by simpa using h1)]
  have oC : ∀ k, k ≠ 83 → mI C k = mI A5 k := fun k hk => wC.2.2.2.2 k (by simpa using hk)
  have oD : ∀ k, k ≠ 67 → mI D k = mI C k := fun k hk => by rw [hD, mI_stne hk, mI_stne hk, mI_stne hk]
  have d67 : ∀ j, j ≠ 43 → j ≠ 51 → j ≠ 56 → mI D 67 j = mI A 67 j := fun j h1 h2 h3 => by
    rw [hD, mI_sn (by omega), mI_sn (by omega), mI_sn (by omega), oC 67 (by omega), w15 67 (by omega) (by omega) (by omega) (by omega) (by omega)]
  have x68 : ∀ i, i < 8 → mI D 68 i = mI N 75 i := fun i hi => by
    rw [oD 68 (by omega), oC 68 (by omega), w5.2.2.2.2 68 (by decide), w4.2.2.2.2 68 (by decide), w3.2.2.2.2 68 (by decide), w2.2.2.2.2 68 (by decide), v1 i hi, oA 75 (by omega)]
  have x69 : ∀ i, i < 8 → mI D 69 i = mI N 76 i := fun i hi => by
    rw [oD 69 (by omega), oC 69 (by omega), w5.2.2.2.2 69 (by decide), w4.2.2.2.2 69 (by decide), w3.2.2.2.2 69 (by decide), v2 i hi, w1.2.2.2.2 76 (by decide), oA 76 (by omega)]
  have x70 : ∀ i, i < 8 → mI D 70 i = mI N 77 i := fun i hi => by
    rw [oD 70 (by omega), oC 70 (by omega), w5.2.2.2.2 70 (by decide), w4.2.2.2.2 70 (by decide), v3 i hi, w2.2.2.2.2 77 (by decide), w1.2.2.2.2 77 (by decide), oA 77 (by omega)]
  have x71 : ∀ i, i < 8 → mI D 71 i = mI N 78 i := fun i hi => by
    rw [oD 71 (by omega), oC 71 (by omega), w5.2.2.2.2 71 (by decide), v4 i hi, w3.2.2.2.2 78 (by decide), w2.2.2.2.2 78 (by decide), w1.2.2.2.2 78 (by decide), oA 78 (by omega)]
  have x72 : ∀ i, i < 1400 → mI D 72 i = mI N 80 i := fun i hi => by
    rw [oD 72 (by omega), oC 72 (by omega), v5 i hi, w4.2.2.2.2 80 (by decide), w3.2.2.2.2 80 (by decide), w2.2.2.2.2 80 (by decide), w1.2.2.2.2 80 (by decide), oA 80 (by omega)]
  have x83 : ∀ j, j < 43 → mI D 83 j = mI N 79 j := fun j hj => by
    rw [oD 83 (by omega), cC j hj, w15 79 (by omega) (by omega) (by omega) (by omega) (by omega), oA 79 (by omega)]
  have h8 := gg.1
  have bo := bg_o (G := G) (tP G)
  refine ⟨D, ?_, ⟨⟨⟨⟨LD, ⟨gp_g gg, ?_, ?_, ?_, fun h hh => ?_, fun i hi => ?_, fun i hi => ?_, ?_, ?_⟩, rfl, by omega, ⟨?_, ?_, ?_, fun h hh => ?_, fun i hi => ?_⟩, bg_gd gg _ (Nat.le_refl _)⟩, ?_⟩, ⟨?_, Nat.zero_le _, fun i t ht => (by cases ht)⟩, ⟨?_, Nat.zero_le _, fun i e he => (by cases he)⟩, ?_, fun i hi => ?_, ⟨?_, fun i b hb => (by cases hb)⟩, ?_⟩, ?_⟩, ?_⟩
  · have eC' : loop (fun z : Int32 × Mem => F_X9_town_s257 67 z.1 z.2) ((0 : Int32), A5) = some C := eC
    have e24 : ∀ j, 6 ≤ j → mI N 67 j = mI N 67 j := fun _ _ => rfl
    unfold F_X9_town_j133
    rw [Lc_67 L0, M_g1 L0 go, ob_t, if_neg (by decide), Lf_67 L0, ob_t, Ls_67 L0, ob_t, Lf_67 L0.st, ob_t, mI_sn (by omega), Ls_67 L0.st, ob_t, Lf_67 L0.st.st, ob_t, mI_sn (by omega), mI_sn (by omega), Ls_67 L0.st.st, ob_t, Lf_67 L0.st.st.st, ob_t, mI_sn (by omega), mI_sn (by omega), mI_sn (by omega), Ls_67 L0.st.st.st, ob_t, Lf_67 L0.st.st.st.st, ob_t, mI_sn (by omega), mI_sn (by omega), mI_sn (by omega), mI_sn (by omega), Ls_67 L0.st.st.st.st, ob_t, ← hA, Lp_67_33 LA, ob_t, Lp_67_6 LA, ob_t, Lc_67 LA, c1, ob_t, Lp_67_34 L1, ob_t, Lp_67_7 L1, ob_t, Lc_67 L1, c2, ob_t, Lp_67_35 L2, ob_t, Lp_67_8 L2, ob_t, Lc_67 L2, c3, ob_t, Lp_67_36 L3, ob_t, Lp_67_9 L3, ob_t, Lc_67 L3, c4, ob_t, Lp_67_38 L4, ob_t, Lp_67_10 L4, ob_t, Lc_67 L4, c5, ob_t, eC', ob_t, Ls_67 LC, ob_t, Ls_67 LC.st, ob_t, pZ_t (Or.inl rfl) (LC.st.st.t rfl), ob_t, ← hD]
  · rw [d67 1 (by omega) (by omega) (by omega)]; exact vA.1
  · rw [d67 2 (by omega) (by omega) (by omega)]; exact vA.2.1
  · rw [d67 3 (by omega) (by omega) (by omega)]; exact vA.2.2.1
  · have hh : h < tH G := hh
    rw [x68 h (by omega), x69 h (by omega)]; exact ⟨(d2 h hh).2.1, (d2 h hh).2.2.1⟩
  · have hi : i < tP G := hi
    rw [x70 i (by omega)]; exact (d3 i hi).2.1
  · have hi : i < tD G := hi
    rw [x71 i (by omega)]; exact d4 i hi
  · rw [d67 4 (by omega) (by omega) (by omega), vA.2.2.2.1]; exact d8.rl (by omega) x72 gg.2.2.2.2.2.1
  · rw [d67 5 (by omega) (by omega) (by omega), vA.2.2.2.2]; exact d9.rl (by omega) x72 gg.2.2.2.2.2.2
  · rw [x83 0 (by omega), bo.1]; exact d5.1
  · rw [x83 (0 + 1) (by omega), bo.2.2.1]; exact d5.2.1
  · rw [x83 (0 + 2) (by omega), bo.2.1]; exact d5.2.2
  · have hh : h < tH G := hh
    rw [Nat.zero_add, Nat.zero_add, Nat.zero_add, x83 (3 + h) (by omega), x83 (11 + h) (by omega), x83 (19 + h) (by omega), bo.2.2.2.1, bo.2.2.2.2.1]
    obtain ⟨y1, y2, y3, y4, y5⟩ := d2 h hh
    refine ⟨y1, y4, ?_⟩
    rcases y5 with ⟨i, i1, i2, i3⟩ | ⟨i1, i2⟩
    · rcases bg_w gg (tP G) (Nat.le_refl _) h hh with ⟨j, j1, j2, j3⟩ | ⟨j1, j2⟩
      · have := gg.2.2.2.1 i j i1 j1 (i2.trans j2.symm) (by rw [i2]; exact nI_nm1 (by omega))
        rw [i3, j3, this]
      · exact absurd i2 (j1 i i1)
    · rcases bg_w gg (tP G) (Nat.le_refl _) h hh with ⟨j, j1, j2, j3⟩ | ⟨j1, j2⟩
      · exact absurd j2 (i1 j j1)
      · rw [i2, j2]
  · have hi : i < tP G := hi
    rw [Nat.zero_add, Nat.zero_add, x83 (27 + i) (by omega), x83 (35 + i) (by omega), bo.2.2.2.2.2.1, bo.2.2.2.2.2.2]
    exact ⟨(d3 i hi).1, (d3 i hi).2.2⟩
  · rw [d67 46 (by omega) (by omega) (by omega), aA 46 (by omega)]; exact h46
  · rw [hD, mI_sn (by omega), mI_sn (by omega), mI_se]; rfl
  · rw [hD, mI_sn (by omega), mI_se]; rfl
  · show mI D 67 56 = 0
    rw [hD, mI_se]
  · rw [oD 74 (by omega), oC 74 (by omega), w15 74 (by omega) (by omega) (by omega) (by omega) (by omega), oA 74 (by omega)]; exact h74 i hi
  · rw [d67 12 (by omega) (by omega) (by omega), aA 12 (by omega)]; exact h12
  · rw [d67 14 (by omega) (by omega) (by omega), aA 14 (by omega)]; exact go.2
  · rw [d67 0 (by omega) (by omega) (by omega), aA 0 (by omega)]; exact h0
  · have fx : ∀ k, (68 ≤ k ∧ k ≤ 72) ∨ k = 83 → ∀ j, XV k j := fun k hk j => by unfold XV; omega
    have g1 : Fr XV N C := (((((fA.trans (w1.fr (X := XV) fun k j y => fx k (by rw [List.mem_singleton.mp y]; omega) j)).trans (w2.fr (X := XV) fun k j y => fx k (by rw [List.mem_singleton.mp y]; omega) j)).trans (w3.fr (X := XV) fun k j y => fx k (by rw [List.mem_singleton.mp y]; omega) j)).trans (w4.fr (X := XV) fun k j y => fx k (by rw [List.mem_singleton.mp y]; omega) j)).trans (w5.fr (X := XV) fun k j y => fx k (by rw [List.mem_singleton.mp y]; omega) j)).trans (wC.fr (X := XV) fun k j y => fx k (by rw [List.mem_singleton.mp y]; omega) j)
    rw [hD]
    exact ((g1.st (b := 67) (j := 43) (by unfold XV; omega)).st (b := 67) (j := 51) (by unfold XV; omega)).st (b := 67) (j := 56) (by unfold XV; omega)
theorem Fr.fm (w : Fr X N N') (h : ∀ k j, X k j → 67 ≤ k ∧ k < 97) : FM N N' := ⟨w.1, w.2.1, w.2.2.1, w.2.2.2.1, fun k hk => funext fun j => w.at fun y => by have := h k j y; omega⟩
theorem LF.thi {co : Option ((Int32 × Mem) ⊕ (Nat × Mem))} {mo : Mem → Option (Int32 × Mem)} {x k : Nat} {hnd : Nat → Mem → Option (Int32 × Mem)} {vv : Int32 → Mem → Option (Int32 × Mem)} (hc : CI M p g s L E I R T f) (hm : MI M g s L E I R T f) (hr : Rm M m) (h1 : CT M co x) (h2 : ∀ M1, MI M1 g s L E I R T f → MT M1 g s (mo M1) k) (hk : 0 < k ∧ k < 3) (hh : ∀ N, hnd x N = some (nI k, N)) : LF m (ckO M 8 0 (bdT co vv hnd)) mo := by
  have c1 : CI (nwM M (200, 0) 6) p g s L E I R T f := hc.nw
  have m1 : MI (nwM M (200, 0) 6) g s L E I R T f := hm.nw hc.1
  obtain ⟨v, M2, e2, w2, z2, t2⟩ := h2 _ m1
  refine ⟨nI k, nwM M (200, 0) 6, v, M2, ?_, e2, c1.1, z2.lay, t2, fun z => absurd z (nI_ne0 hk.1 (by omega)), ?_⟩
  · unfold CT at h1
    rw [Lc_0 hc.1, h1, bdT_r, hh]
  · refine ⟨p, g, s, L, E, I, R, T, f, c1.q w2, m1.q w2 z2.2, ?_⟩
    unfold Rm at *
    rw [w2.1, w2.2.2.1, len_nw, mS_nw]
    omega
theorem A_town (hc : CI M p g s L E I R T f) (hm : MI M g s L E I R T f) (hr : Rm M m) (hm5 : m < 512) (x : Int32) : LF m (F_L_town 0 x 97 M) (F_X9_town 67 x) := by
  have ta := hc.2.2.2.2.2.2.2.2.2.2.2.2.2.1
  have hL := hc.1
  have c := hc.cq hr (by omega)
  unfold F_L_town
  rcases ncase x 0 T.length (by omega) (by have := ta.2.1; omega) with ⟨n, -, hn, rfl⟩ | hx
  rotate_left 1
  · refine LF.thi (k := 1) (x := 0) hc hm hr ?_ (fun M1 m1 => ?_) (by omega) (fun N => rfl)
    · unfold CT F_X8_town F_X3_taped
      by_cases lt : x < 0
      · rw [if_pos lt, c.nx, ob_t]
      · have gt : ¬ x ≤ nI T.length := Int32.not_le.mpr (hx.resolve_left lt)
        rw [if_neg lt, Lp_0_0 hL, ob_t, Lc_1 hL, Lf_1 hL, ob_t, ob_t, ta.1, if_neg gt, c.nx, ob_t]
    · obtain ⟨e0, m0, -⟩ := m1.1.zero
      refine MT.mk m1.1 (v := 0) ?_
      have j : F_X9_town_j22 67 x 67 (stI M1 67 0 0) = some (0, stI (stI M1 67 0 0) 67 0 (nI 1)) := by
        unfold F_X9_town_j22 F_X9_town_j23
        have rg : F_X9_right 67 0 (1 : Int32) (stI M1 67 0 0) = some (0, stI (stI M1 67 0 0) 67 0 (nI 1)) := m0.rgt' (k := 1) (by omega) (by omega)
        rw [Lc_67 m0.lay, rg, bd2_t, if_pos rfl]
      unfold F_X9_town
      rw [e0, ob_t]
      by_cases lt : x < 0
      · rw [if_pos lt, j]
      · rw [if_neg lt, Lf_67 m0.lay, ob_t, mI_sn (by omega), m1.2.2.2.2.2.1.1, if_pos (hx.resolve_left lt), j]
  have h7 := ta.2.1
  have hB : ∀ i, i < n → T[i]? = some (T.getD i 0) := fun i hi => by rw [List.getD_eq_getElem?_getD, List.getElem?_eq_getElem (by omega)]; rfl
  have h256 : ∀ i, i < n → T.getD i 0 < 256 := fun i hi => (ta.2.2 i _ (hB i hi)).1
  obtain ⟨p', hpp⟩ : ∃ p', (p = 4 ∧ p' = 14) ∨ (p = 14 ∧ p' = 4) := by
    rcases hc.2.1 with z | z
    · exact ⟨14, Or.inl ⟨z.1, rfl⟩⟩
    · exact ⟨4, Or.inr ⟨z.1, rfl⟩⟩
  obtain ⟨t1, t2⟩ := F_town (B := fun i => T.getD i 0) hc hr hm5 hn hB hpp
  have mi : ∀ {M1 : Mem} {v : Int64}, Lay M1 → (∀ k', 67 ≤ k' → k' < 98 → mI M1 k' = mI M k') → MI (stL M1 97 0 v) g s L E I R T f := fun {M1 v} l e => MI.out (MI.fr hm l fun k a b => e k a (by omega))
  cases hrd : rdL (fun i => T.getD i 0) n 700 G0t 0 with
  | inr y =>
    obtain ⟨k, a⟩ := y
    obtain ⟨M1, e1, c1, k1, k5, b1, b2, o1⟩ := t1 k a hrd
    have hN := mi (v := (nI k).toInt64) c1.1 o1
    obtain ⟨N4, e4, l4, w4, z0, z12⟩ := M_start (B := fun i => T.getD i 0) hN hn h7 hB h256
    obtain ⟨N5, e5, l5, w5, -⟩ := M_read (B := fun i => T.getD i 0) h256 700 G0t 0 N4 g_0 l4 (by omega)
    rw [hrd] at l5
    have l5 : FtM N5 k a := l5
    have L5 := l5.1
    have w45 : Fr XW (stL M1 97 0 ((nI k).toInt64)) N5 := w4.trans (w5.mono fun _ _ => XG_W)
    have v74 : mI N5 74 0 = R 0 := by rw [w45.at (by unfold XW; omega)]; exact hN.2.2.2.2.1 0 (by omega)
    refine LF.act (M2 := stI N5 74 0 (R 0 + 1)) hL hr e1 c1 b1 b2 ?_ ⟨MI.tn hN L5.st (fun k' j h1 h2 h3 h4 => by rw [mI_sn h4]; exact w45.at h3) ?_ mI_se ?_, ?_⟩ ?_
    · rw [e4, e5, ob_t]
      unfold F_X9_town_j133
      have a74 : aI N5 100 74 (0 : Int32) = some (R 0) := (La_74 (i := 0) L5 (by omega)).trans (by rw [v74])
      have s74 : sI N5 100 74 (0 : Int32) (R 0 + 1) = some (stI N5 74 0 (R 0 + 1)) := Lw_74 (i := 0) L5 (by omega)
      rw [Lc_67 L5, l5.bad, ob_t, if_pos rfl, Lp_67_15 L5, ob_t, a74, ob_t, s74, ob_t, Lf_67 L5.st, ob_t, mI_sn (by omega), l5.2.1]
    · rw [mI_sn (by omega), w5.at (by unfold XG; omega)]; exact z12
    · rw [mI_sn (by omega)]; exact l5.2.2.1
    · rw [mI_sn (by omega), w5.at (by unfold XG; omega)]; exact z0
    · exact Fr.fm (X := XV) ((w45.mono fun k j y => Or.inl y).st (Or.inr (Or.inr (Or.inr (Or.inr ⟨rfl, rfl⟩))))) (fun k j y => by unfold XV XW at y; omega)
  | inl y =>
    obtain ⟨G, q⟩ := y
    obtain ⟨M1, e1, c1, b1, b2, o1⟩ := t2 G q hrd
    have hN := mi (v := (0 : Int32).toInt64) c1.1 o1
    obtain ⟨N4, e4, l4, w4, z0, z12⟩ := M_start (B := fun i => T.getD i 0) hN hn h7 hB h256
    obtain ⟨N5, e5, l5, w5, g5⟩ := M_read (B := fun i => T.getD i 0) h256 700 G0t 0 N4 g_0 l4 (by omega)
    rw [hrd] at l5
    have w45 : Fr XW (stL M1 97 0 ((0 : Int32).toInt64)) N5 := w4.trans (w5.mono fun _ _ => XG_W)
    obtain ⟨N6, e6, z6, w6⟩ := M_fin (R := R) l5 (g5 G q hrd) (by rw [w45.at (by unfold XW; omega)]; exact hN.1.2) (by rw [w5.at (by unfold XG; omega)]; exact z12) (by rw [w5.at (by unfold XG; omega)]; exact z0) (fun i hi => by rw [w45.at (by unfold XW; omega)]; exact hN.2.2.2.2.1 i hi)
    refine LF.act (M2 := N6) hL hr e1 c1 b1 b2 ?_ z6 ?_
    · rw [e4, e5, ob_t, e6]
    · exact Fr.fm (X := XV) ((w45.mono fun k j y => Or.inl y).trans w6) (fun k j y => by unfold XV XW at y; omega)
end
