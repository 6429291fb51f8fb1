/-! ===== a town: the reference ===== -/
section
variable {M M' M1 M2 N N' : Mem} {p p' m : Nat} {g : Pg} {s : Sg} {L : List Sg} {E : List Se} {I : Option (Sg × List Sg × List Se)} {R : Nat → Int32} {T : List Nat} {f f' : Int32} {B : Nat → Nat} {n : Nat} {G : Gt} {X Y : Nat → Nat → Prop}
def XW (k j : Nat) : Prop := (k = 67 ∧ (j = 0 ∨ (12 ≤ j ∧ j ≤ 14) ∨ (16 ≤ j ∧ j ≤ 32))) ∨ (75 ≤ k ∧ k ≤ 82)
theorem XG_W {k j : Nat} (h : XG k j) : XW k j := by unfold XG at h; unfold XW; omega
theorem Wr.fr {l : List Nat} (w : Wr l N N') (h : ∀ k j, k ∈ l → X k j) : Fr X N N' := ⟨w.1, w.2.2.1, w.2.2.2.1, fun k _ => by rw [w.2.1], fun k j hx => by rw [w.2.2.2.2 k (fun y => hx (h k j y))]⟩
theorem M_start (hm : MI N g s L E I R T f) (hn : n ≤ T.length) (h7 : T.length ≤ 700) (hB : ∀ i, i < n → T[i]? = some (B i)) (h256 : ∀ i, i < n → B i < 256) : ∃ N4, F_X9_town 67 (nI n) N = ((loop (fun z => F_X9_town_s112 67 z) N4).bind fun M56 => F_X9_town_j133 67 M56) ∧ LnM B n N4 (.inl (G0t, 0)) ∧ Fr XW N N4 ∧ mI N4 67 0 = 0 ∧ mI N4 67 12 = 0 := by
  obtain ⟨e0, z0, -⟩ := hm.1.zero
  have LN := hm.1.1.1
  have L0 := z0.lay
  have h12 := hm.2.2.2.2.2.1
  have hA : ∃ A, A = stI (stI (stI (stI (stI (stI (stI (stI (stI (stI (stI N 67 0 0) 67 12 0) 67 14 (-1)) 67 13 0) 67 16 (nI n)) 67 17 0) 67 24 0) 67 25 0) 67 26 0) 67 27 (-1)) 67 28 (-1) := ⟨_, rfl⟩
  obtain ⟨A, hA⟩ := hA
  have fA : Fr XW N A := by
    rw [hA]
    exact ((((((((((Fr.rfl'.st (b := 67) (j := 0) (by unfold XW; omega)).st (b := 67) (j := 12) (by unfold XW; omega)).st (b := 67) (j := 14) (by unfold XW; omega)).st (b := 67) (j := 13) (by unfold XW; omega)).st (b := 67) (j := 16) (by unfold XW; omega)).st (b := 67) (j := 17) (by unfold XW; omega)).st (b := 67) (j := 24) (by unfold XW; omega)).st (b := 67) (j := 25) (by unfold XW; omega)).st (b := 67) (j := 26) (by unfold XW; omega)).st (b := 67) (j := 27) (by unfold XW; omega)).st (b := 67) (j := 28) (by unfold XW; omega)
  have LA := LN.fr fA
  have vA : mI A 67 0 = 0 ∧ mI A 67 12 = 0 ∧ mI A 67 14 = -1 ∧ mI A 67 13 = 0 ∧ mI A 67 16 = nI n ∧ mI A 67 17 = 0 ∧ mI A 67 24 = 0 ∧ mI A 67 25 = 0 ∧ mI A 67 26 = 0 ∧ mI A 67 27 = -1 ∧ mI A 67 28 = -1 := by
    rw [hA]
    refine ⟨?_, ?_, ?_, ?_, ?_, ?_, ?_, ?_, ?_, ?_, ?_⟩ <;> simp [mI_st]
  obtain ⟨C, eC, cC, wC⟩ := loop_mm (step := fun z : Int32 × Mem => F_X9_town_s84 67 z.1 z.2) (fun i M' => (nI i, M')) (fun M' => M') 43 (fun i M' => (∀ j, j < i → mI M' 79 j = 0) ∧ Wr [79] A M') (M := A) ⟨fun j hj => by omega, Wr.rfl'⟩ (by
    rintro i M' hi ⟨h', w'⟩
    have L' := LA.wr w'
    refine ⟨stI M' 79 i 0, ?_, fun j hj => ?_, w'.st (by decide)⟩
    · unfold F_X9_town_s84
      dsimp only
      rw [if_neg (show ¬ (43 : Int32) ≤ nI i from nI_ge (b := 43) hi (by omega)), Lp_67_37 L', ob_t, Lw_79 L' hi, ob_t, nI_1]
    · by_cases e : j = i
      · rw [e, mI_se]
      · rw [mI_sn (by omega)]; exact h' j (by omega)) (by
    rintro M' ⟨h', w'⟩
    unfold F_X9_town_s84
    dsimp only
    rw [if_pos (show (43 : Int32) ≤ nI 43 by decide)])
  have LC := LA.wr wC
  have o67 : mI C 67 = mI A 67 := wC.2.2.2.2 67 (by decide)
  have fC : Fr XW N (stI C 67 29 0) := (fA.trans (wC.fr (X := XW) fun k j y => by rw [List.mem_singleton.mp y]; unfold XW; omega)).st (by unfold XW; omega)
  have tx : TxM B n (stI C 67 29 0) := ⟨LC.st, by omega, h256, by rw [mI_sn (by omega), o67]; exact vA.2.2.2.2.1, fun i hi => by
    rw [mI_sn (by omega), wC.2.2.2.2 73 (by decide), fA.at (by unfold XW; omega)]; exact h12.2 i _ (hB i hi)⟩
  obtain ⟨D, eD, tD, wD⟩ := M_takes (q := 0) tx (by rw [mI_sn (by omega), o67]; exact vA.2.2.2.2.2.1) (Nat.zero_le _)
  have d67 : ∀ j, ¬ (17 ≤ j ∧ j ≤ 22) → j ≠ 29 → mI D 67 j = mI A 67 j := fun j h1 h2 => by
    rw [wD.at (by unfold XM; omega), mI_sn (by omega), o67]
  have d79 : ∀ j, j < 43 → mI D 79 j = 0 := fun j hj => by rw [wD.at (by unfold XM; omega), mI_sn (by omega)]; exact cC j hj
  refine ⟨D, ?_, ⟨⟨tD, by rw [d67 13 (by omega) (by omega)]; exact vA.2.2.2.1, by rw [d67 14 (by omega) (by omega)]; exact vA.2.2.1⟩, ⟨by rw [d67 24 (by omega) (by omega)]; exact vA.2.2.2.2.2.2.1, by rw [d67 25 (by omega) (by omega)]; exact vA.2.2.2.2.2.2.2.1, by rw [d67 26 (by omega) (by omega)]; exact vA.2.2.2.2.2.2.2.2.1⟩, fun h hh => absurd hh (Nat.not_lt_zero _), fun h hh => absurd hh (Nat.not_lt_zero _), fun h hh => absurd hh (Nat.not_lt_zero _), ⟨d79 0 (by omega), d79 1 (by omega), d79 2 (by omega)⟩, 0, by rw [wD.at (by unfold XM; omega), mI_se]; rfl, Nat.zero_le _, Or.inl ⟨by rw [d67 27 (by omega) (by omega)]; exact vA.2.2.2.2.2.2.2.2.2.1, rfl⟩, Or.inl ⟨by rw [d67 28 (by omega) (by omega)]; exact vA.2.2.2.2.2.2.2.2.2.2, rfl⟩⟩, fC.trans (wD.mono fun k j y => by unfold XM at y; unfold XW; omega), by rw [d67 0 (by omega) (by omega)]; exact vA.1, by rw [d67 12 (by omega) (by omega)]; exact vA.2.1⟩
  have eC' : loop (fun z : Int32 × Mem => F_X9_town_s84 67 z.1 z.2) ((0 : Int32), A) = some C := eC
  unfold F_X9_town F_X9_town_j23
  rw [e0, ob_t, if_neg (show ¬ nI n < 0 from nI_nlt (b := 0) (by omega) (by omega)), Lf_67 L0, ob_t, mI_sn (by omega), h12.1, if_neg (nI_nlt hn (by omega)), Lc_67 L0, z0.rgt, bd2_t, if_neg (by decide), Ls_67 L0, ob_t, Ls_67 L0.st, ob_t, Ls_67 L0.st.st, ob_t, Ls_67 L0.st.st.st, ob_t, Ls_67 L0.st.st.st.st, ob_t, Ls_67 L0.st.st.st.st.st, ob_t, Ls_67 L0.st.st.st.st.st.st, ob_t, Ls_67 L0.st.st.st.st.st.st.st, ob_t, Ls_67 L0.st.st.st.st.st.st.st.st, ob_t, Ls_67 L0.st.st.st.st.st.st.st.st.st, ob_t, ← hA, eC', ob_t, Ls_67 LC, ob_t, Lc_67 LC.st, eD, ob_t]
theorem MI.tn (h : MI N g s L E I R T f) (hL' : Lay N') (w : ∀ k j, 67 ≤ k → k < 97 → ¬ XW k j → ¬ (k = 74 ∧ j = 0) → mI N' k j = mI N k j) (h12 : mI N' 67 12 = 0) (h74 : mI N' 74 0 = R 0 + 1) (h14 : mI N' 67 14 = f') : MI N' g s L E I (upg R 0 (R 0 + 1)) [] f' := by
  obtain ⟨h1, h2, h3, h4, h5, h6, h7⟩ := h
  have e : ∀ k, 67 < k → k < 75 → k ≠ 74 → mI N' k = mI N k := fun k a b c => funext fun j => w k j (by omega) (by omega) (by unfold XW; omega) (by omega)
  have e' : ∀ k, 83 ≤ k → k < 97 → mI N' k = mI N k := fun k a b => funext fun j => w k j (by omega) (by omega) (by unfold XW; omega) (by omega)
  have e7 : ∀ j, ((1 ≤ j ∧ j ≤ 5) ∨ 33 ≤ j) → mI N' 67 j = mI N 67 j := fun j hj => w 67 j (by omega) (by omega) (by unfold XW; omega) (by omega)
  have mq : MQu N' g s := by
    refine ⟨⟨hL', ?_, h1.1.2.2.1, h1.1.2.2.2.1, by rw [e' 83 (by omega) (by omega)]; exact h1.1.rw, h1.1.gd⟩, by rw [e7 46 (by omega)]; exact h1.2⟩
    unfold MPl
    rw [e7 1 (by omega), e7 2 (by omega), e7 3 (by omega), e7 4 (by omega), e7 5 (by omega), e 68 (by omega) (by omega) (by omega), e 69 (by omega) (by omega) (by omega), e 70 (by omega) (by omega) (by omega), e 71 (by omega) (by omega) (by omega), e 72 (by omega) (by omega) (by omega)]
    exact h1.1.2.1
  refine ⟨mq, ?_, ?_, ?_, fun i hi => ?_, ⟨h12, fun i b hb => by cases hb⟩, h14⟩
  · unfold AcM; rw [e7 43 (by omega), e' 84 (by omega) (by omega)]; exact h2
  · unfold SeM; rw [e7 51 (by omega), e' 91 (by omega) (by omega)]; exact h3
  · cases I with
    | none => show mI N' 67 56 = 0; rw [e7 56 (by omega)]; exact h4
    | some x =>
      obtain ⟨s', L', E'⟩ := x
      show mI N' 67 56 = 1 ∧ RwV (mI N' 94) 0 g s' ∧ AcM N' (mI N' 67 57) 95 g L' ∧ SeM N' (mI N' 67 58) 96 E'
      unfold AcM SeM
      rw [e7 56 (by omega), e7 57 (by omega), e7 58 (by omega), e' 94 (by omega) (by omega), e' 95 (by omega) (by omega), e' 96 (by omega) (by omega)]
      exact h4
  · by_cases c : i = 0
    · rw [c, upg_eq]; exact h74
    · rw [upg_ne c, w 74 i (by omega) (by omega) (by unfold XW; omega) (by omega)]; exact h5 i hi
theorem M_copies {a b len : Nat} (ha : N.1[a]? = some (100, len)) (hb : N.1[b]? = some (100, len)) (hl : len < 2 ^ 31) (hab : a ≠ b) : ∃ N', F_X9_copies 67 a b N = some N' ∧ (∀ i, i < len → mI N' b i = mI N a i) ∧ Wr [b] N N' := by
  obtain ⟨C, eC, cC, wC⟩ := loop_mm (step := fun z : Int32 × Mem => F_X9_copies_s2 a b z.1 z.2) (fun i M' => (nI i, M')) (fun M' => M') len (fun i M' => (∀ j, j < i → mI M' b j = mI N a j) ∧ Wr [b] N M') (M := N) ⟨fun j hj => by omega, Wr.rfl'⟩ (by
    rintro i M' hi ⟨h', w'⟩
    have ha' : M'.1[a]? = some (100, len) := by rw [w'.1]; exact ha
    have hb' : M'.1[b]? = some (100, len) := by rw [w'.1]; exact hb
    refine ⟨stI M' b i (mI N a i), ?_, fun j hj => ?_, w'.st List.mem_cons_self⟩
    · unfold F_X9_copies_s2
      dsimp only
      rw [alen_t ha', ob_t, if_neg (nI_ge hi hl), aI_t ha' hi hl, ob_t, w'.2.2.2.2 a (fun y => hab (List.mem_singleton.mp y)), sI_t hb' hi hl, ob_t, nI_1]
    · by_cases e : j = i
      · rw [e, mI_se]
      · rw [mI_sn (by omega)]; exact h' j (by omega)) (by
    rintro M' ⟨h', w'⟩
    have ha' : M'.1[a]? = some (100, len) := by rw [w'.1]; exact ha
    unfold F_X9_copies_s2
    dsimp only
    rw [alen_t ha', ob_t, if_pos (nI_le (Nat.le_refl len) hl)])
  refine ⟨C, ?_, cC, wC⟩
  have eC' : loop (fun z : Int32 × Mem => F_X9_copies_s2 a b z.1 z.2) ((0 : Int32), N) = some C := eC
  unfold F_X9_copies
  rw [eC', ob_t]
theorem RlL.rl {x : Int32} {o : Option (List Int32)} {s : Nat} (h : RlL N x o s) (hs : s ≤ 1400) (e : ∀ i, i < 1400 → mI N' 72 i = mI N 80 i) (hb : ∀ l, o = some l → ∃ f, Bal (HH 0 0) l f) : RlM (mI N' 72) x (evO o) := by
  rcases h with ⟨h1, h2⟩ | ⟨k, l, h1, h2, h3, h4⟩
  · exact Or.inl ⟨h1, by rw [h2]; rfl⟩
  · obtain ⟨f, e1, e2⟩ := ev_s (hb l h2)
    exact Or.inr ⟨k, l.map toM, f, h1, by rw [h2]; exact e1, lyM_g _ k (fun i _ hi => e i (by omega)) h3, by omega, e2.den.2⟩
end
