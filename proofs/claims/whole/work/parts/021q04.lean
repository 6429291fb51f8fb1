section
variable {M M' M1 M2 : Mem} {p m : Nat} {g : Pg} {s s' : Sg} {L L' : List Sg} {E E' : List Se} {I I' : Option (Sg × List Sg × List Se)} {R R' : Nat → Int32} {T T' : List Nat} {f f' : Int32}
theorem F_copies {a b n : Nat} (ha : M.1[a]? = some (100, n)) (hb : M.1[b]? = some (100, n)) (hab : a ≠ b) (hn : n < 2 ^ 31) : ∃ M', F_X9_copies 67 a b M = some M' ∧ Wr [b] M M' ∧ ∀ i, i < n → mI M' b i = mI M a i := by
  obtain ⟨M1, e1, w1, h1, -⟩ := loop_cp (M := M) (step := fun z : Int32 × Mem => F_X9_copies_s2 a b z.1 z.2) a b (fun i => i) (fun i => i) n hab (fun i j _ _ z => z) (by
    intro i M' hi w'
    unfold F_X9_copies_s2
    dsimp only
    rw [alen_t (wr_tg w' ha), ob_t, if_neg (nI_ge hi hn), aI_t (wr_tg w' ha) hi hn, ob_t, sI_t (wr_tg w' hb) hi hn, ob_t, nI_1]) (by
    intro M' w'
    unfold F_X9_copies_s2
    dsimp only
    rw [alen_t (wr_tg w' ha), ob_t, if_pos (nI_le (Nat.le_refl _) hn)])
  refine ⟨M1, ?_, w1, h1⟩
  unfold F_X9_copies
  have e1' : loop (fun z : Int32 × Mem => F_X9_copies_s2 a b z.1 z.2) ((0 : Int32), M) = some M1 := e1
  rw [e1', ob_t]
theorem img_room (hr : Rm M m) (hm : m < 512) : M.1.length + 280 ≤ CLM ∧ mS M + 2280 ≤ SLM := by unfold Rm at hr; unfold CLM SLM; omega
theorem C_image (hc : CI M p g s L E I R T f) (h1 : M.1.length + 280 ≤ CLM) (h2 : mS M + 2280 ≤ SLM) : ∃ M', F_X8_image 0 M = some M' ∧ CI M' p g s L E (some (s, L, E)) R T f ∧ (∀ k, 67 ≤ k → k < 98 → mI M' k = mI M k) ∧ M'.1.length ≤ M.1.length + 280 ∧ mS M' ≤ mS M + 2280 := by
  have hl := hc.1.len
  have hp := hc.p14
  have hg := hc.2.2.2.1.2.1
  have hA := hc.2.2.2.2.2.2.2.1
  obtain ⟨M1, e1, s1, w1⟩ := F_copy (a := 44) (b := 24) (hc.1.StO (Or.inr (Or.inr rfl))) hc.2.2.2.2.2.1 hc.2.2.2.2.2.2.1 hg (Or.inr (by omega))
  have l1 := hc.1.wr w1
  have hWC : ∀ k, k ∈ WC 44 → 44 ≤ k ∧ k < 51 := fun k hk => by unfold WC at hk; simp at hk; omega
  have pl1 := hc.2.2.2.1.kp hc.2.2.2.2.1 w1.kp (fun j hj i z => by have := hWC _ z; omega) (fun _ z => z) (fun k n i hk _ _ z => by have := hWC _ z; unfold NC at hk; omega) (fun _ _ _ _ z => z)
  have rX : ∀ r, (r = 39 ∨ r = 52) → ∀ j b, j < 40 → mP M r j = some b → ∀ k, k < 7 → ∀ i : Nat, ¬ (b + k ∈ WC 44) := fun r hr j b hj hb k hk i z => by
    have := (hA.1 r hr j b hj hb).1
    have := hWC _ z
    unfold NC at *; omega
  have ac1 : AcV M1 38 39 g L := hc.2.2.2.2.2.2.2.2.1.kp w1.kp (by omega) (by omega) (fun _ z => by have := hWC _ z; omega) (fun _ z => z) (rX 39 (Or.inl rfl)) (fun _ _ _ _ _ z => z)
  have aR1 : AcR M1 := hA.kp w1.kp hl (fun _ => ⟨fun z => z, fun z => z⟩) (fun _ _ _ z => z)
  obtain ⟨M2, e2, k2, l2, a2, p2, r2, v2, v2', n2, m2⟩ := F_acopy (o := 51) (r := 52) (o' := 38) (r' := 39) (Or.inr ⟨rfl, rfl, rfl, rfl⟩) l1 hp aR1 pl1.1 pl1.2 ac1 hc.2.2.2.2.2.2.2.2.2.1 (by rw [w1.1]; exact h1) (by rw [w1.2.2.2.1]; exact h2)
  have se2 : SeV M2 40 g E := by
    refine (hc.2.2.2.2.2.2.2.2.2.2.1.kp w1.kp (by omega) (fun j hj i z => by have := hWC _ z; omega)).kp k2 (by rw [w1.1]; omega) (fun j hj i z => by omega)
  obtain ⟨M3, e3, s3, w3⟩ := F_scopy (o := 53) (o' := 40) (Or.inr ⟨rfl, rfl⟩) l2 se2
  have l3 := l2.wr w3
  have e4 : pZ M3 8 0 8 1 = some (stI M3 0 8 1) := pZ_t (Or.inr rfl) (l3.t rfl)
  -- from M2 on
  have kb : Kp (fun k j => k ∈ [53, 54, 55, 56] ∨ (k = 0 ∧ j = 8)) Y0 M2 (stI M3 0 8 1) := by
    refine ⟨by show M2.1.length ≤ M3.1.length; rw [w3.1]; exact Nat.le_refl _, fun k _ => by show M3.1[k]? = _; rw [w3.1], fun k j _ hX => ?_, fun k j _ _ => by rw [mP_st, w3.2.2.1]⟩
    rw [mI_st, if_neg (fun z => hX (Or.inr z)), w3.2.2.2.2 k (fun z => hX (Or.inl z))]
  have hl2 := l2.len
  have kX : ∀ k j, (k ∈ [53, 54, 55, 56] ∨ (k = 0 ∧ j = 8)) → (53 ≤ k ∧ k < 57) ∨ k = 0 := fun k j z => by rcases z with z | z; simp at z; omega; omega
  have pl4 := p2.kp r2 kb (fun j hj i z => by have := kX _ _ z; omega) (fun _ z => z) (fun k n i hk _ _ z => by have := kX _ _ z; unfold NC at hk; omega) (fun _ _ _ _ z => z)
  have rX2 : ∀ r, (r = 39 ∨ r = 52) → ∀ j b, j < 40 → mP M2 r j = some b → ∀ k, k < 7 → ∀ i : Nat, ¬ (b + k ∈ [53, 54, 55, 56] ∨ (b + k = 0 ∧ i = 8)) := fun r hr j b hj hb k hk i z => by
    have := (a2.1 r hr j b hj hb).1
    have := kX _ _ z
    unfold NC at *; omega
  have aR4 : AcR (stI M3 0 8 1) := a2.kp kb hl2 (fun _ => ⟨fun z => z, fun z => z⟩) (fun _ _ _ z => z)
  have ac4 : AcV (stI M3 0 8 1) 38 39 g L := v2.kp kb (by omega) (by omega) (fun _ z => by have := kX _ _ z; omega) (fun _ z => z) (rX2 39 (Or.inl rfl)) (fun _ _ _ _ _ z => z)
  have ac4' : AcV (stI M3 0 8 1) 51 52 g L := v2'.kp kb (by omega) (by omega) (fun _ z => by have := kX _ _ z; omega) (fun _ z => z) (rX2 52 (Or.inr rfl)) (fun _ _ _ _ _ z => z)
  -- all the way
  have ka : Kp (fun k j => 98 ≤ k ∨ (44 ≤ k ∧ k < 57) ∨ (k = 0 ∧ j = 8)) (fun k _ => k = 52) M (stI M3 0 8 1) := by
    have x1 : Kp (fun k j => 98 ≤ k ∨ (44 ≤ k ∧ k < 57) ∨ (k = 0 ∧ j = 8)) (fun k _ => k = 52) M M1 := w1.kp.mono (fun k j _ z => by have := hWC _ z; omega) (fun _ _ z => z.elim)
    have x2 : Kp (fun k j => 98 ≤ k ∨ (44 ≤ k ∧ k < 57) ∨ (k = 0 ∧ j = 8)) (fun k _ => k = 52) M1 M2 := k2.mono (fun k j _ z => by omega) (fun _ _ z => z)
    have x3 : Kp (fun k j => 98 ≤ k ∨ (44 ≤ k ∧ k < 57) ∨ (k = 0 ∧ j = 8)) (fun k _ => k = 52) M2 (stI M3 0 8 1) := kb.mono (fun k j _ z => by rcases z with z | z; simp at z; omega; omega) (fun _ _ z => z.elim)
    exact (x1.trans x2).trans x3
  have st24 : StV (stI M3 0 8 1) 24 g s := hc.2.2.2.2.2.1.kp ka (fun j hj i z => by omega) (fun i z => by omega)
  have sm : ∀ k, 0 < k → k < 44 ∨ (57 ≤ k ∧ k < 98) → mI (stI M3 0 8 1) k = mI M k := fun k h0 hk => ka.rw (by omega) (fun j z => by omega)
  have st44 : StV (stI M3 0 8 1) 44 g s := (s1.kp k2 (fun j hj i z => by omega) (fun i z => by omega)).kp kb (fun j hj i z => by have := kX _ _ z; omega) (fun _ z => z)
  have se4 : SeV (stI M3 0 8 1) 53 g E := by
    refine s3.kp (X := fun k _ => k = 0) (Y := Y0) ⟨Nat.le_refl _, fun _ _ => rfl, fun k i _ z => by rw [mI_stne z], fun _ _ _ _ => rfl⟩ (by have := l3.len; omega) (fun j hj i z => by omega)
  have hl3 : (stI M3 0 8 1).1.length ≤ M.1.length + 280 := by show M3.1.length ≤ _; rw [w3.1]; rw [w1.1] at n2; exact n2
  refine ⟨stI M3 0 8 1, ?_, ⟨l3, ?_, ka.pt (by omega) (by decide) hc.2.2.1, pl4.1, pl4.2, st24, hc.2.2.2.2.2.2.1, aR4, ac4, hc.2.2.2.2.2.2.2.2.2.1, hc.2.2.2.2.2.2.2.2.2.2.1.kp ka (by omega) (fun j hj i z => by omega), ⟨by rw [mI_steq, upg_eq], st44, hc.2.2.2.2.2.2.1, ac4', hc.2.2.2.2.2.2.2.2.2.1, se4⟩, fun i hi => by rw [sm 57 (by omega) (by omega)]; exact hc.2.2.2.2.2.2.2.2.2.2.2.2.1 i hi, ?_, ?_⟩, fun k a b => sm k (by omega) (by omega), hl3, by show mS M3 ≤ _; rw [w3.2.2.2.1]; rw [w1.2.2.2.1] at m2; exact m2⟩
  · unfold F_X8_image
    rw [Lp_0_9 hc.1, ob_t, Lp_0_4 hc.1, ob_t, Lc_44 hc.1, e1, ob_t, Lp_0_10 l1, ob_t, Lp_0_6 l1, ob_t, Lc_51 l1, e2, ob_t, Lp_0_11 l2, ob_t, Lp_0_7 l2, ob_t, Lc_53 l2, e3, ob_t, e4, ob_t]
  · rcases hc.2.1 with z | z
    · exact Or.inl ⟨z.1, ka.pt (by omega) (by decide) z.2⟩
    · exact Or.inr ⟨z.1, ka.pt (by omega) (by decide) z.2⟩
  · unfold TaV; rw [sm 1 (by omega) (by omega), sm 2 (by omega) (by omega)]; exact hc.2.2.2.2.2.2.2.2.2.2.2.2.2.1
  · rw [ka.2.2.1 0 1 (by omega) (by omega)]; exact hc.2.2.2.2.2.2.2.2.2.2.2.2.2.2
theorem C_restore (hc : CI M p g s L E (some (s', L', E')) R T f) (h1 : M.1.length + 280 ≤ CLM) (h2 : mS M + 2280 ≤ SLM) : ∃ M', F_X8_restore 0 M = some (1, M') ∧ CI M' p g s' L' E' (some (s', L', E')) R T f ∧ (∀ k, 67 ≤ k → k < 98 → mI M' k = mI M k) ∧ M'.1.length ≤ M.1.length + 280 ∧ mS M' ≤ mS M + 2280 := by
  have hl := hc.1.len
  have hp := hc.p14
  have hg := hc.2.2.2.1.2.1
  have hA := hc.2.2.2.2.2.2.2.1
  obtain ⟨i1, i2, i3, i4, i5, i6⟩ := hc.2.2.2.2.2.2.2.2.2.2.2.1
  obtain ⟨M1, e1, s1, w1⟩ := F_copy (a := 24) (b := 44) (hc.1.StO (Or.inl rfl)) i2 i3 hg (Or.inl (by omega))
  have l1 := hc.1.wr w1
  have hWC : ∀ k, k ∈ WC 24 → 24 ≤ k ∧ k < 31 := fun k hk => by unfold WC at hk; simp at hk; omega
  have pl1 := hc.2.2.2.1.kp hc.2.2.2.2.1 w1.kp (fun j hj i z => by have := hWC _ z; omega) (fun _ z => z) (fun k n i hk _ _ z => by have := hWC _ z; unfold NC at hk; omega) (fun _ _ _ _ z => z)
  have rX : ∀ r, (r = 39 ∨ r = 52) → ∀ j b, j < 40 → mP M r j = some b → ∀ k, k < 7 → ∀ i : Nat, ¬ (b + k ∈ WC 24) := fun r hr j b hj hb k hk i z => by
    have := (hA.1 r hr j b hj hb).1
    have := hWC _ z
    unfold NC at *; omega
  have ac1 : AcV M1 51 52 g L' := i4.kp w1.kp (by omega) (by omega) (fun _ z => by have := hWC _ z; omega) (fun _ z => z) (rX 52 (Or.inr rfl)) (fun _ _ _ _ _ z => z)
  have aR1 : AcR M1 := hA.kp w1.kp hl (fun _ => ⟨fun z => z, fun z => z⟩) (fun _ _ _ z => z)
  obtain ⟨M2, e2, k2, l2, a2, p2, r2, v2, v2', n2, m2⟩ := F_acopy (o := 38) (r := 39) (o' := 51) (r' := 52) (Or.inl ⟨rfl, rfl, rfl, rfl⟩) l1 hp aR1 pl1.1 pl1.2 ac1 i5 (by rw [w1.1]; exact h1) (by rw [w1.2.2.2.1]; exact h2)
  have se2 : SeV M2 53 g E' := by
    refine (i6.kp w1.kp (by omega) (fun j hj i z => by have := hWC _ z; omega)).kp k2 (by rw [w1.1]; omega) (fun j hj i z => by omega)
  obtain ⟨M3, e3, s3, w3⟩ := F_scopy (o := 40) (o' := 53) (Or.inl ⟨rfl, rfl⟩) l2 se2
  have l3 := l2.wr w3
  have kb : Kp (fun k _ => k ∈ [40, 41, 42, 43]) Y0 M2 M3 := w3.kp
  have hl2 := l2.len
  have pl4 := p2.kp r2 kb (fun j hj i z => by simp at z; omega) (fun _ z => z) (fun k n i hk _ _ z => by simp at z; unfold NC at hk; omega) (fun _ _ _ _ z => z)
  have rX2 : ∀ r, (r = 39 ∨ r = 52) → ∀ j b, j < 40 → mP M2 r j = some b → ∀ k, k < 7 → ∀ i : Nat, ¬ (b + k ∈ [40, 41, 42, 43]) := fun r hr j b hj hb k hk i z => by
    have := (a2.1 r hr j b hj hb).1
    simp at z
    unfold NC at *; omega
  have aR4 : AcR M3 := a2.kp kb hl2 (fun _ => ⟨fun z => z, fun z => z⟩) (fun _ _ _ z => z)
  have ac4 : AcV M3 38 39 g L' := v2'.kp kb (by omega) (by omega) (fun _ z => by simp at z) (fun _ z => z) (rX2 39 (Or.inl rfl)) (fun _ _ _ _ _ z => z)
  have ac4' : AcV M3 51 52 g L' := v2.kp kb (by omega) (by omega) (fun _ z => by simp at z) (fun _ z => z) (rX2 52 (Or.inr rfl)) (fun _ _ _ _ _ z => z)
  have ka : Kp (fun k j => 98 ≤ k ∨ (24 ≤ k ∧ k < 31) ∨ k = 38 ∨ (40 ≤ k ∧ k < 44)) (fun k _ => k = 39) M M3 := by
    have x1 : Kp (fun k j => 98 ≤ k ∨ (24 ≤ k ∧ k < 31) ∨ k = 38 ∨ (40 ≤ k ∧ k < 44)) (fun k _ => k = 39) M M1 := w1.kp.mono (fun k j _ z => by have := hWC _ z; omega) (fun _ _ z => z.elim)
    have x2 : Kp (fun k j => 98 ≤ k ∨ (24 ≤ k ∧ k < 31) ∨ k = 38 ∨ (40 ≤ k ∧ k < 44)) (fun k _ => k = 39) M1 M2 := k2.mono (fun k j _ z => by omega) (fun _ _ z => z)
    have x3 : Kp (fun k j => 98 ≤ k ∨ (24 ≤ k ∧ k < 31) ∨ k = 38 ∨ (40 ≤ k ∧ k < 44)) (fun k _ => k = 39) M2 M3 := kb.mono (fun k j _ z => by simp at z; omega) (fun _ _ z => z.elim)
    exact (x1.trans x2).trans x3
  have sm : ∀ k, k < 24 ∨ (44 ≤ k ∧ k < 98) → mI M3 k = mI M k := fun k hk => ka.rw (by omega) (fun j z => by omega)
  have st24 : StV M3 24 g s' := (s1.kp k2 (fun j hj i z => by omega) (fun i z => by omega)).kp kb (fun j hj i z => by simp at z; omega) (fun _ z => z)
  have st44 : StV M3 44 g s' := i2.kp ka (fun j hj i z => by omega) (fun i z => by omega)
  refine ⟨M3, ?_, ⟨l3, ?_, ka.pt (by omega) (by decide) hc.2.2.1, pl4.1, pl4.2, st24, i3, aR4, ac4, i5, s3, ⟨by rw [sm 0 (by omega)]; exact i1, st44, i3, ac4', i5, i6.kp ka (by omega) (fun j hj i z => by omega)⟩, fun i hi => by rw [sm 57 (by omega)]; exact hc.2.2.2.2.2.2.2.2.2.2.2.2.1 i hi, ?_, by rw [sm 0 (by omega)]; exact hc.2.2.2.2.2.2.2.2.2.2.2.2.2.2⟩, fun k a b => sm k (by omega), by rw [w3.1]; rw [w1.1] at n2; exact n2, by rw [w3.2.2.2.1]; rw [w1.2.2.2.1] at m2; exact m2⟩
  · unfold F_X8_restore
    rw [Lf_0 hc.1, ob_t, i1, if_neg (by decide), Lp_0_4 hc.1, ob_t, Lp_0_9 hc.1, ob_t, Lc_24 hc.1, e1, ob_t, Lp_0_6 l1, ob_t, Lp_0_10 l1, ob_t, Lc_38 l1, e2, ob_t, Lp_0_7 l2, ob_t, Lp_0_11 l2, ob_t, Lc_40 l2, e3, ob_t]
  · rcases hc.2.1 with z | z
    · exact Or.inl ⟨z.1, ka.pt (by omega) (by decide) z.2⟩
    · exact Or.inr ⟨z.1, ka.pt (by omega) (by decide) z.2⟩
  · unfold TaV; rw [sm 1 (by omega), sm 2 (by omega)]; exact hc.2.2.2.2.2.2.2.2.2.2.2.2.2.1
theorem A_image (hc : CI M p g s L E I R T f) (hm : MI M g s L E I R T f) (hr : Rm M m) (hm5 : m < 512) : VF m (F_X8_image 0 M) (F_X9_image 67) := by
  obtain ⟨k1, k2⟩ := img_room hr hm5
  obtain ⟨M1, e1, c1, w1, l1, s1⟩ := C_image hc k1 k2
  have m1 : MI M1 g s L E I R T f := hm.fr c1.1 fun k a b => w1 k a (by omega)
  obtain ⟨e0, z, w0⟩ := m1.zero
  generalize hN0 : stI M1 67 0 0 = N0 at *
  have hg := z.1.1.1.gp
  -- fields
  have f1 : pZ N0 9 67 56 1 = some (stI N0 67 56 1) := pZ_t (Or.inr rfl) (z.lay.t rfl)
  have x43 : mI (stI N0 67 56 1) 67 43 = nI L.length := by rw [mI_steq, upg_ne (by omega)]; exact z.1.2.1.1
  have x51 : mI (stI (stI N0 67 56 1) 67 57 (nI L.length)) 67 51 = nI E.length := by rw [mI_steq, upg_ne (by omega), mI_steq, upg_ne (by omega)]; exact z.1.2.2.1.1
  generalize hN1 : stI (stI (stI N0 67 56 1) 67 57 (nI L.length)) 67 58 (nI E.length) = N1 at *
  have lN1 : Lay N1 := by rw [← hN1]; exact z.lay
  have a67 : mI N1 67 = upg (upg (upg (mI N0 67) 56 1) 57 (nI L.length)) 58 (nI E.length) := by rw [← hN1, mI_steq, mI_steq, mI_steq]
  have b1 : ∀ k, k ≠ 67 → mI N1 k = mI N0 k := fun k hk => by rw [← hN1, mI_stne hk, mI_stne hk, mI_stne hk]
  have wN1 : Wr [67] N0 N1 := by rw [← hN1]; exact ((Wr.rfl'.st (by simp)).st (by simp)).st (by simp)
  obtain ⟨N2, e2, w2, h2, -⟩ := loop_cp (M := N1) (step := fun z : Int32 × Mem => F_X9_image_s28 67 z.1 z.2) 83 94 (fun i => i) (fun i => i) 43 (by omega) (fun i j _ _ z => z) (by
    intro i M' hi w'
    have hL := lN1.wr w'
    unfold F_X9_image_s28
    dsimp only
    rw [if_neg (show ¬ (43 : Int32) ≤ nI i from nI_ge (b := 43) hi (by omega)), Lp_67_59 hL, ob_t, Lp_67_41 hL, ob_t, La_83 hL (by omega), ob_t, Lw_94 hL (by omega), ob_t, nI_1]) (by
    intro M' w'
    unfold F_X9_image_s28
    dsimp only
    rw [if_pos (show (43 : Int32) ≤ nI 43 from nI_le (a := 43) (Nat.le_refl _) (by omega))])
  have e2' : loop (fun z : Int32 × Mem => F_X9_image_s28 67 z.1 z.2) ((0 : Int32), N1) = some N2 := e2
  have lN2 := lN1.wr w2
  obtain ⟨N3, e3, w3, h3⟩ := F_copies (a := 84) (b := 95) (lN2.t rfl) (lN2.t rfl) (by omega) (by omega)
  have lN3 := lN2.wr w3
  obtain ⟨N4, e4, w4, h4⟩ := F_copies (a := 91) (b := 96) (lN3.t rfl) (lN3.t rfl) (by omega) (by omega)
  have lN4 := lN3.wr w4
  have sm : ∀ k, k ∉ [67, 94, 95, 96] → mI N4 k = mI N0 k := fun k hk => by
    simp at hk
    rw [wr_mI w4 (by simp; omega), wr_mI w3 (by simp; omega), wr_mI w2 (by simp; omega), b1 k (by omega)]
  have s67 : mI N4 67 = mI N1 67 := by rw [wr_mI w4 (by decide), wr_mI w3 (by decide), wr_mI w2 (by decide)]
  have t67 : ∀ j, j ≠ 56 → j ≠ 57 → j ≠ 58 → mI N4 67 j = mI N0 67 j := fun j a b c => by rw [s67, a67, upg_ne c, upg_ne b, upg_ne a]
  have z4 : MI N4 g s L E (some (s, L, E)) R T f := by
    refine ⟨z.1.1.fr lN4 (fun k a b => sm k (by simp; omega)) (fun j hj => t67 j (by omega) (by omega) (by omega)) (by rw [sm 83 (by decide)]; exact z.1.1.1.rw) z.1.1.1.gd, ?_, ?_, ⟨?_, ?_, ⟨?_, z.1.2.1.2.1, fun i t ht => ?_⟩, ⟨?_, z.1.2.2.1.2.1, fun i e he => ?_⟩⟩, ?_, ?_, ?_⟩
    · rw [t67 43 (by omega) (by omega) (by omega)]; exact z.1.2.1.fr (sm 84 (by decide))
    · rw [t67 51 (by omega) (by omega) (by omega)]; exact z.1.2.2.1.fr (sm 91 (by decide))
    · rw [s67, a67, upg_ne (by omega), upg_ne (by omega), upg_eq]
    · have : mI N4 94 = mI N2 94 := by rw [wr_mI w4 (by decide), wr_mI w3 (by decide)]
      rw [this]
      refine z.1.1.1.rw.cp hg fun i hi => ?_
      rw [Nat.zero_add, h2 i hi, b1 83 (by omega)]
    · rw [s67, a67, upg_ne (by omega), upg_eq]
    · have hi := (List.getElem?_eq_some_iff.mp ht).1
      have h40 := z.1.2.1.2.1
      have : mI N4 95 = mI N3 95 := by rw [wr_mI w4 (by decide)]
      rw [this]
      refine (z.1.2.1.2.2 i t ht).cp hg fun k hk => ?_
      rw [h3 _ (by omega), wr_mI w2 (by decide), b1 84 (by omega)]
    · rw [s67, a67, upg_eq]
    · have hi := (List.getElem?_eq_some_iff.mp he).1
      have h8 := z.1.2.2.1.2.1
      have : mI N3 91 = mI N0 91 := by rw [wr_mI w3 (by decide), wr_mI w2 (by decide), b1 91 (by omega)]
      rw [h4 _ (by omega), h4 _ (by omega), h4 _ (by omega), this]
      exact z.1.2.2.1.2.2 i e he
    · rw [sm 74 (by decide)]; exact z.1.2.2.2.2.1
    · rw [t67 12 (by omega) (by omega) (by omega), sm 73 (by decide)]; exact z.1.2.2.2.2.2.1
    · rw [t67 14 (by omega) (by omega) (by omega)]; exact z.1.2.2.2.2.2.2
  refine ⟨M1, N4, e1, ?_, c1.1, fin hr c1 z4 ((((w0.trans (wN1.fm (by simp))).trans (w2.fm (by simp))).trans (w3.fm (by simp))).trans (w4.fm (by simp))) (by omega) (by omega)⟩
  unfold F_X9_image
  rw [e0, ob_t, f1, ob_t, Lf_67 (M := stI N0 67 56 1) z.lay, ob_t, x43, Ls_67 (M := stI N0 67 56 1) z.lay, ob_t, Lf_67 (M := stI (stI N0 67 56 1) 67 57 _) z.lay, ob_t, x51, Ls_67 (M := stI (stI N0 67 56 1) 67 57 _) z.lay, ob_t, hN1, e2', ob_t, Lp_67_42 lN2, ob_t, Lp_67_60 lN2, ob_t, Lc_67 lN2, e3, ob_t, Lp_67_52 lN3, ob_t, Lp_67_61 lN3, ob_t, Lc_67 lN3, e4, ob_t]
theorem A_restore (hc : CI M p g s L E I R T f) (hm : MI M g s L E I R T f) (hr : Rm M m) (hm5 : m < 512) : AF m (F_X8_restore 0 M) (F_X9_restore 67) := by
  obtain ⟨k1, k2⟩ := img_room hr hm5
  cases I with
  | none =>
    obtain ⟨e0, z, w0⟩ := hm.zero
    have i1 : mI M 0 8 = 0 := hc.2.2.2.2.2.2.2.2.2.2.2.1
    have j1 : mI (stI M 67 0 0) 67 56 = 0 := z.1.2.2.2.1
    refine AF.mk (v := 0) (M1 := M) hr ?_ hc (by omega) (by omega) (M2 := stI M 67 0 0) ?_ z.1 w0
    · unfold F_X8_restore
      rw [Lf_0 hc.1, ob_t, i1, if_pos rfl]
    · unfold F_X9_restore
      rw [e0, ob_t, Lf_67 z.lay, ob_t, j1, if_pos rfl]
  | some x =>
    obtain ⟨s', L', E'⟩ := x
    obtain ⟨M1, e1, c1, w1, l1, s1⟩ := C_restore hc k1 k2
    have m1 : MI M1 g s L E (some (s', L', E')) R T f := hm.fr c1.1 fun k a b => w1 k a (by omega)
    obtain ⟨e0, z, w0⟩ := m1.zero
    generalize hN0 : stI M1 67 0 0 = N0 at *
    have hg := z.1.1.1.gp
    obtain ⟨j1, j2, j3, j4⟩ := z.1.2.2.2.1
    have gd' : GdS 999 g s' := c1.2.2.2.2.2.2.1
    have x58 : mI (stI N0 67 43 (nI L'.length)) 67 58 = nI E'.length := by rw [mI_steq, upg_ne (by omega)]; exact j4.1
    generalize hN1 : stI (stI N0 67 43 (nI L'.length)) 67 51 (nI E'.length) = N1 at *
    have lN1 : Lay N1 := by rw [← hN1]; exact z.lay
    have a67 : mI N1 67 = upg (upg (mI N0 67) 43 (nI L'.length)) 51 (nI E'.length) := by rw [← hN1, mI_steq, mI_steq]
    have b1 : ∀ k, k ≠ 67 → mI N1 k = mI N0 k := fun k hk => by rw [← hN1, mI_stne hk, mI_stne hk]
    have wN1 : Wr [67] N0 N1 := by rw [← hN1]; exact (Wr.rfl'.st (by simp)).st (by simp)
    obtain ⟨N2, e2, w2, h2, -⟩ := loop_cp (M := N1) (step := fun z : Int32 × Mem => F_X9_restore_s32 67 z.1 z.2) 94 83 (fun i => i) (fun i => i) 43 (by omega) (fun i j _ _ z => z) (by
      intro i M' hi w'
      have hL := lN1.wr w'
      unfold F_X9_restore_s32
      dsimp only
      rw [if_neg (show ¬ (43 : Int32) ≤ nI i from nI_ge (b := 43) hi (by omega)), Lp_67_41 hL, ob_t, Lp_67_59 hL, ob_t, La_94 hL (by omega), ob_t, Lw_83 hL (by omega), ob_t, nI_1]) (by
      intro M' w'
      unfold F_X9_restore_s32
      dsimp only
      rw [if_pos (show (43 : Int32) ≤ nI 43 from nI_le (a := 43) (Nat.le_refl _) (by omega))])
    have e2' : loop (fun z : Int32 × Mem => F_X9_restore_s32 67 z.1 z.2) ((0 : Int32), N1) = some N2 := e2
    have lN2 := lN1.wr w2
    obtain ⟨N3, e3, w3, h3⟩ := F_copies (a := 95) (b := 84) (lN2.t rfl) (lN2.t rfl) (by omega) (by omega)
    have lN3 := lN2.wr w3
    obtain ⟨N4, e4, w4, h4⟩ := F_copies (a := 96) (b := 91) (lN3.t rfl) (lN3.t rfl) (by omega) (by omega)
    have lN4 := lN3.wr w4
    have sm : ∀ k, k ∉ [67, 83, 84, 91] → mI N4 k = mI N0 k := fun k hk => by
      simp at hk
      rw [wr_mI w4 (by simp; omega), wr_mI w3 (by simp; omega), wr_mI w2 (by simp; omega), b1 k (by omega)]
    have s67 : mI N4 67 = mI N1 67 := by rw [wr_mI w4 (by decide), wr_mI w3 (by decide), wr_mI w2 (by decide)]
    have t67 : ∀ j, j ≠ 43 → j ≠ 51 → mI N4 67 j = mI N0 67 j := fun j a b => by rw [s67, a67, upg_ne b, upg_ne a]
    have z4 : MI N4 g s' L' E' (some (s', L', E')) R T f := by
      refine ⟨z.1.1.fr lN4 (fun k a b => sm k (by simp; omega)) (fun j hj => t67 j (by omega) (by omega)) ?_ gd', ⟨?_, j3.2.1, fun i t ht => ?_⟩, ⟨?_, j4.2.1, fun i e he => ?_⟩, z.1.2.2.2.1.fr (fun j hj => t67 j (by omega) (by omega)) ⟨sm 94 (by decide), sm 95 (by decide), sm 96 (by decide)⟩, ?_, ?_, ?_⟩
      · have : mI N4 83 = mI N2 83 := by rw [wr_mI w4 (by decide), wr_mI w3 (by decide)]
        rw [this]
        refine j2.cp hg fun i hi => ?_
        rw [Nat.zero_add, h2 i hi, b1 94 (by omega)]
      · rw [s67, a67, upg_ne (by omega), upg_eq]
      · have hi := (List.getElem?_eq_some_iff.mp ht).1
        have h40 := j3.2.1
        have : mI N4 84 = mI N3 84 := by rw [wr_mI w4 (by decide)]
        rw [this]
        refine (j3.2.2 i t ht).cp hg fun k hk => ?_
        rw [h3 _ (by omega), wr_mI w2 (by decide), b1 95 (by omega)]
      · rw [s67, a67, upg_eq]
      · have hi := (List.getElem?_eq_some_iff.mp he).1
        have h8 := j4.2.1
        have : mI N3 96 = mI N0 96 := by rw [wr_mI w3 (by decide), wr_mI w2 (by decide), b1 96 (by omega)]
        rw [h4 _ (by omega), h4 _ (by omega), h4 _ (by omega), this]
        exact j4.2.2 i e he
      · rw [sm 74 (by decide)]; exact z.1.2.2.2.2.1
      · rw [t67 12 (by omega) (by omega), sm 73 (by decide)]; exact z.1.2.2.2.2.2.1
      · rw [t67 14 (by omega) (by omega)]; exact z.1.2.2.2.2.2.2
    refine AF.mk (v := 1) hr e1 c1 (by omega) (by omega) (M2 := N4) ?_ z4 ((((w0.trans (wN1.fm (by simp))).trans (w2.fm (by simp))).trans (w3.fm (by simp))).trans (w4.fm (by simp)))
    unfold F_X9_restore
    rw [e0, ob_t, Lf_67 z.lay, ob_t, j1, if_neg (by decide), Lf_67 z.lay, ob_t, j3.1, Ls_67 z.lay, ob_t, Lf_67 (M := stI N0 67 43 _) z.lay, ob_t, x58, Ls_67 (M := stI N0 67 43 _) z.lay, ob_t, hN1, e2', ob_t, Lp_67_60 lN2, ob_t, Lp_67_42 lN2, ob_t, Lc_67 lN2, e3, ob_t, Lp_67_61 lN3, ob_t, Lp_67_52 lN3, ob_t, Lc_67 lN3, e4, ob_t]
end
