/-! ===== a town: the class ===== -/
section
variable {M M' M1 M2 N N' : Mem} {p p' m : Nat} {g : Pg} {s : Sg} {L : List Sg} {E : List Se} {I : Option (Sg × List Sg × List Se)} {R : Nat → Int32} {T : List Nat} {f f' : Int32} {B : Nat → Nat} {n : Nat} {G : Gt} {X Y : Nat → Nat → Prop}
theorem g_rd (hB : ∀ i, i < n → B i < 256) : ∀ (m : Nat) (G : Gt) (q : Nat) (G' : Gt) (q' : Nat), GdG G → q ≤ n → rdL B n m G q = .inl (G', q') → GdG G' := by
  intro m
  induction m with
  | zero => intro G q G' q' g hq e; cases e; exact g
  | succ m ih =>
    intro G q G' q' g hq e
    rw [rdL.eq_2] at e
    by_cases c0 : cdT B n q = 0
    · rw [if_pos c0] at e; cases e; exact g
    · rw [if_neg c0] at e
      cases hl : lnE B n G q with
      | inr f => rw [hl] at e; cases e
      | inl x =>
        obtain ⟨G1, q1⟩ := x
        rw [hl] at e
        rw [lnE_s] at hl
        cases hl2 : lnL B n G q with
        | inr f => rw [hl2] at hl; cases hl
        | inl y =>
          obtain ⟨G2, q2⟩ := y
          obtain ⟨z1, z2, z3⟩ := g_ln hB hq c0 g hl2
          rw [hl2] at hl
          unfold sgE at hl
          dsimp only at hl
          by_cases c79 : cdT B n q2 = 79
          · rw [if_pos c79] at hl
            have hl := Sum.inl.inj hl
            have e1 : G2 = G1 := congrArg Prod.fst hl
            have e2 : enT B n q2 = q1 := congrArg Prod.snd hl
            have := (en_le (B := B) z3).2
            exact ih G1 q1 G' q' (e1 ▸ z1) (by omega) e
          · rw [if_neg c79] at hl; cases hl
theorem g_0 : GdG G0t := ⟨⟨Nat.zero_le _, Nat.zero_le _, Nat.zero_le _⟩, fun h hh => absurd hh (Nat.not_lt_zero _), fun h hh => absurd hh (Nat.not_lt_zero _), fun i j hi => absurd hi (Nat.not_lt_zero _), fun h hh => absurd hh (Nat.not_lt_zero _), fun l hl => (by cases hl), fun l hl => (by cases hl)⟩
theorem CI.tn (h : CI M p g s L E I R T f) (hpp : (p = 4 ∧ p' = 14) ∨ (p = 14 ∧ p' = 4)) (w : Kp X Y M M') (hX : ∀ k j, X k j → k = 1 ∨ k = 3 ∨ (p' ≤ k ∧ k ≤ p' + 7) ∨ (k = 0 ∧ j = 1) ∨ (k = 57 ∧ j = 0)) (hY : ∀ k j, Y k j → k = p' ∧ (j = 10 ∨ j = 11)) (hL' : Lay M') (h11 : mI M' 1 1 = 0) (h57 : mI M' 57 0 = R 0 + 1) (h01 : mI M' 0 1 = f') : CI M' p g s L E I (upg R 0 (R 0 + 1)) [] f' := by
  obtain ⟨hL, h2, h3, h4, h5, h6, h7, h8, h9, h10, h11', h12, h13, h14, h15⟩ := h
  have hlen := hL.len
  have n98 : ∀ k, 98 ≤ k → ∀ j, ¬ X k j := fun k hk j z => by have := hX k j z; omega
  have nS : ∀ k, ((24 ≤ k ∧ k ≤ 56) ∨ (p ≤ k ∧ k ≤ p + 7)) → ∀ j, ¬ X k j := fun k hk j z => by have := hX k j z; omega
  have nY : ∀ k i, k ≠ p' → ¬ Y k i := fun k i hk z => hk (hY k i z).1
  have pl := h4.kp h5 w (fun j hj i => nS _ (by omega) i) (fun i => nY p i (by omega)) (fun k n i hk _ _ => n98 _ (by unfold NC at hk; omega) i) (fun k i hk _ => nY k i (by unfold NC at hk; omega))
  have rowX : ∀ r, (r = 39 ∨ r = 52) → ∀ j b, j < 40 → mP M r j = some b → ∀ k, k < 7 → ∀ i, ¬ X (b + k) i := fun r hr j b hj hb k hk i => n98 _ (by have := (h8.1 r hr j b hj hb).1; unfold NC at this; omega) i
  have rowY : ∀ r, (r = 39 ∨ r = 52) → ∀ j b, j < 40 → mP M r j = some b → ∀ i, ¬ Y b i := fun r hr j b hj hb i => nY b i (by have := (h8.1 r hr j b hj hb).1; unfold NC at this; omega)
  refine ⟨hL', ?_, w.pt (by omega) (nY 0 2 (by omega)) h3, pl.1, pl.2, h6.kp w (fun j hj i => nS _ (by omega) i) (fun i => nY 24 i (by omega)), h7, h8.kp w hlen (fun i => ⟨nY 39 i (by omega), nY 52 i (by omega)⟩) (fun b i hb => nY b i (by unfold NC at hb; omega)), h9.kp w (by omega) (by omega) (nS 38 (by omega)) (fun i => nY 39 i (by omega)) (rowX 39 (Or.inl rfl)) (rowY 39 (Or.inl rfl)), h10, h11'.kp w (by omega) (fun j hj i => nS _ (by omega) i), ?_, fun i hi => ?_, ⟨h11, Nat.zero_le _, fun i b hb => by cases hb⟩, h01⟩
  · rcases h2 with z | z
    · exact Or.inl ⟨z.1, w.pt (by omega) (nY 0 3 (by omega)) z.2⟩
    · exact Or.inr ⟨z.1, w.pt (by omega) (nY 0 3 (by omega)) z.2⟩
  · have e8 : mI M' 0 8 = mI M 0 8 := w.2.2.1 0 8 (by omega) (fun z => by have := hX 0 8 z; omega)
    cases I with
    | none => show mI M' 0 8 = 0; rw [e8]; exact h12
    | some x =>
      obtain ⟨s', L', E'⟩ := x
      obtain ⟨z1, z2, z3, z4, z5, z6⟩ := h12
      exact ⟨by rw [e8]; exact z1, z2.kp w (fun j hj i => nS _ (by omega) i) (fun i => nY 44 i (by omega)), z3, z4.kp w (by omega) (by omega) (nS 51 (by omega)) (fun i => nY 52 i (by omega)) (rowX 52 (Or.inr rfl)) (rowY 52 (Or.inr rfl)), z5, z6.kp w (by omega) (fun j hj i => nS _ (by omega) i)⟩
  · by_cases e : i = 0
    · rw [e, upg_eq]; exact h57
    · rw [upg_ne e, w.2.2.1 57 i (by omega) (fun z => by have := hX 57 i z; omega)]; exact h13 i hi
theorem RuL.q {x : Option Nat} {o : Option (List Int32)} (h : RuL M x o) (hb : ∀ l, o = some l → ∃ f, Bal (HH 0 0) l f) : RuQ M x (evO o) := by
  rcases h with ⟨h1, h2⟩ | ⟨k, l, h1, h2, h3, h4, h5, h6, h7, h8⟩
  · exact Or.inl ⟨h1, by rw [h2]; rfl⟩
  · obtain ⟨f, e1, e2⟩ := ev_s (hb l h2)
    exact Or.inr ⟨k, f, h1, by rw [h2]; exact e1, h4, h3, k + 1, l, by unfold NC at *; omega, h5, h6, h7, h8, e2.den.1⟩
theorem F_town (hc : CI M p g s L E I R T f) (hr : Rm M m) (hm : m < 512) (hn : n ≤ T.length) (hB : ∀ i, i < n → T[i]? = some (B i)) (hpp : (p = 4 ∧ p' = 14) ∨ (p = 14 ∧ p' = 4)) :
    (∀ k a, rdL B n 700 G0t 0 = .inr (k, a) → ∃ M1, F_X8_town 0 (nI n) M = some (.inl (nI k, M1)) ∧ CI M1 p g s L E I (upg R 0 (R 0 + 1)) [] (nI a) ∧ 1 ≤ k ∧ k ≤ 5 ∧ M1.1.length ≤ M.1.length + 900 ∧ mS M1 ≤ mS M + 11000 ∧ ∀ k', 67 ≤ k' → k' < 98 → mI M1 k' = mI M k') ∧
    (∀ G q, rdL B n 700 G0t 0 = .inl (G, q) → ∃ M1, F_X8_town 0 (nI n) M = some (.inl (0, M1)) ∧ CI M1 p' (gPl G) (bgN G (tP G)) [] [] none R [] (-1) ∧ M1.1.length ≤ M.1.length + 900 ∧ mS M1 ≤ mS M + 11000 ∧ ∀ k', 67 ≤ k' → k' < 98 → mI M1 k' = mI M k') := by
  have hL := hc.1
  have hlen := hL.len
  have ta := hc.2.2.2.2.2.2.2.2.2.2.2.2.2.1
  have hp' : p' = 4 ∨ p' = 14 := by omega
  have bb : ∀ i, i < n → B i < 256 ∧ mI M 2 i = nby (nI (B i)) := fun i hi => ta.2.2 i _ (hB i hi)
  have hr' := hr
  unfold Rm at hr'
  have d3 : mP M 0 3 = some p' := by
    rcases hc.2.1 with z | z
    · rcases hpp with y | y
      · rw [y.2]; exact z.2
      · omega
    · rcases hpp with y | y
      · omega
      · rw [y.2]; exact z.2
  obtain ⟨A, eA, lA, kA, a11, g1, g2⟩ := F_read (B := B) (n := n) hp' hL hn ta.2.1 ta.1 (fun i hi => (bb i hi).1) (fun i hi => (bb i hi).2) (by unfold CLM; omega) (by unfold SLM; omega)
  have LA : Lay A := hL.kp kA (by
    intro x hx
    have : ∀ x ∈ PT0, ¬ (x.1 = 4 ∧ (x.2.1 = 10 ∨ x.2.1 = 11)) ∧ ¬ (x.1 = 14 ∧ (x.2.1 = 10 ∨ x.2.1 = 11)) := by decide
    have := this x hx
    unfold YL
    rcases hp' with rfl | rfl
    · exact this.1
    · exact this.2)
  have lenA := LA.len
  have g3 : gP M 8 0 3 = some p' := gP_t (hL.t rfl) d3
  have nl : n < 2 ^ 31 := by have := ta.2.1; omega
  have town : ∀ v, v = nI (fkR (rdL B n 700 G0t 0)) → F_X8_town 0 (nI n) M = (if v = 0 then F_X8_town_j54 0 v (-1 : Int32) 0 A else (gP A 8 0 0).bind fun v19 => ckO A 3 v19 ((F_X3_place v19 A).bind fun v23 => F_X8_town_j54 0 v v23 0 A)) := fun v hv => by
    unfold F_X8_town F_X3_taped
    rw [if_neg (show ¬ nI n < 0 from nI_nlt (b := 0) (by omega) (by omega)), Lp_0_0 hL, ob_t, Lc_1 hL, Lf_1 hL, ob_t, ob_t, ta.1, if_pos (nI_le hn (by have := ta.2.1; omega)), ob_t, g3, ob_t, Lc_1 hL, eA, bd2_t, hv]
  have o67 : ∀ k', 67 ≤ k' → k' < 98 → mI A k' = mI M k' := fun k' h1 h2 => funext fun j => kA.2.2.1 k' j (by omega) (by unfold XK; omega)
  constructor
  · intro k a hk
    have town := town (nI k) (by rw [hk]; rfl)
    rw [hk] at lA
    have lA : CFt B n A k a := lA
    have h57 : mI A 57 0 = R 0 := by rw [kA.2.2.1 57 0 (by omega) (by unfold XK; omega)]; exact hc.2.2.2.2.2.2.2.2.2.2.2.2.1 0 (by omega)
    refine ⟨stI (stI A 0 1 (nI a)) 57 0 (R 0 + 1), ?_, ?_, lA.2.2.2.1.1, lA.2.2.2.1.2, by show A.1.length ≤ _; omega, by show mS A ≤ _; omega, fun k' h1 h2 => by rw [mI_stne (by omega), mI_stne (by omega)]; exact o67 k' h1 h2⟩
    · rw [town, if_neg (neL0 (by have := lA.2.2.2.1; omega) (by have := lA.2.2.2.1; omega)), Lp_0_0 LA, ob_t, Lc_1 LA]
      unfold F_X3_place F_X8_town_j54
      have a57 : aI (stI A 0 1 (nI a)) 100 57 (0 : Int32) = some (R 0) := (La_57 (i := 0) LA.st (by omega)).trans (by rw [mI_sn (by omega), h57])
      have w57 : sI (stI A 0 1 (nI a)) 100 57 (0 : Int32) (R 0 + 1) = some (stI (stI A 0 1 (nI a)) 57 0 (R 0 + 1)) := Lw_57 (i := 0) LA.st (by omega)
      rw [Lf_1 LA, ob_t, ob_t, lA.2.2.1, Ls_0 LA, ob_t, if_neg (neL0 (by have := lA.2.2.2.1; omega) (by have := lA.2.2.2.1; omega)), Lp_0_12 LA.st, ob_t, a57, ob_t, w57, ob_t]
    · have kk : Kp (fun k j => XK p' k j ∨ (k = 0 ∧ j = 1) ∨ (k = 57 ∧ j = 0)) (YL p') M (stI (stI A 0 1 (nI a)) 57 0 (R 0 + 1)) := ⟨kA.1, kA.2.1, fun k j hk hx => by
        rw [mI_sn (fun y => hx (Or.inr (Or.inr y))), mI_sn (fun y => hx (Or.inr (Or.inl y)))]
        exact kA.2.2.1 k j hk (fun y => hx (Or.inl y)), kA.2.2.2⟩
      exact hc.tn hpp kk (fun k j z => by unfold XK at z; omega) (fun k j z => z) LA.st.st (by rw [mI_sn (by omega), mI_sn (by omega)]; exact a11) mI_se (by rw [mI_sn (by omega), mI_se])
  · intro G q hG
    have town := town 0 (by rw [hG]; rfl)
    have gg := g_rd (fun i hi => (bb i hi).1) 700 G0t 0 G q g_0 (Nat.zero_le _) hG
    rw [hG] at lA
    obtain ⟨⟨tk, h3⟩, dr⟩ := lA
    have p2 : mP A 0 2 = some p := by rw [kA.2.2.2 0 2 (by omega) (by unfold YL; omega)]; exact hc.2.2.1
    have p3 : mP A 0 3 = some p' := by rw [kA.2.2.2 0 3 (by omega) (by unfold YL; omega)]; exact d3
    have hS : ∃ S, S = stP (stP (stI A 0 1 (-1)) 0 2 (some p')) 0 3 (some p) := ⟨_, rfl⟩
    obtain ⟨S, hS⟩ := hS
    have S1 : S.1 = A.1 := by rw [hS]; rfl
    have SS : mS S = mS A := by rw [hS]; rfl
    have SI : ∀ k j, ¬ (k = 0 ∧ j = 1) → mI S k j = mI A k j := fun k j h => by rw [hS, mI_stP, mI_stP, mI_sn h]
    have SP : ∀ k j, ¬ (k = 0 ∧ (j = 2 ∨ j = 3)) → mP S k j = mP A k j := fun k j h => by
      rw [hS, mP_stP, if_neg (by omega), mP_stP, if_neg (by omega)]; rfl
    have S2 : mP S 0 2 = some p' ∧ mP S 0 3 = some p := by
      rw [hS]
      exact ⟨by rw [mP_stP, if_neg (by omega), mP_stP, if_pos ⟨rfl, rfl⟩], by rw [mP_stP, if_pos ⟨rfl, rfl⟩]⟩
    have kS : Kp (fun k j => k = 0 ∧ j = 1) (fun k j => k = 0 ∧ (j = 2 ∨ j = 3)) A S := ⟨by rw [S1]; exact Nat.le_refl _, fun k _ => by rw [S1], fun k j _ h => SI k j h, fun k j _ h => SP k j h⟩
    have LS : Lay S := LA.kp kS (by decide)
    have dS : DrV S p' G := by
      obtain ⟨d1, d2, d3, d4, d5, d6, d7⟩ := dr
      have o : ∀ k, k ≠ 0 → mI S k = mI A k := fun k hk => funext fun j => SI k j (by omega)
      refine ⟨by rw [o p' (by omega)]; exact d1, d2, fun h hh => by rw [o _ (by omega), o _ (by omega), o _ (by omega)]; exact d3 h hh, fun i hi => by rw [o _ (by omega), o _ (by omega), o _ (by omega)]; exact d4 i hi, fun i hi => by rw [o _ (by omega)]; exact d5 i hi, ?_, ?_⟩
      · rw [SP p' 10 (by omega)]; exact d6.kp kS (fun k j hk => by unfold NC at hk; omega) (fun k j hk => by unfold NC at hk; omega)
      · rw [SP p' 11 (by omega)]; exact d7.kp kS (fun k j hk => by unfold NC at hk; omega) (fun k j hk => by unfold NC at hk; omega)
    obtain ⟨C, eC, sC, wC⟩ := C_begin hp' LS dS gg
    have LC := LS.wr wC
    have wD : Wr [38, 40, 0] C (stI (stI (stI (stI C 38 1 0) 38 2 0) 40 3 0) 0 8 0) := ((((Wr.rfl'.st (by decide)).st (by decide)).st (by decide)).st (by decide))
    have hD : ∃ D, D = stI (stI (stI (stI C 38 1 0) 38 2 0) 40 3 0) 0 8 0 := ⟨_, rfl⟩
    obtain ⟨D, hD⟩ := hD
    rw [← hD] at wD
    have LD := LC.wr wD
    have D1 : D.1 = A.1 := by rw [wD.1, wC.1, S1]
    have DP : mP D = mP S := by rw [wD.2.2.1, wC.2.2.1]
    have DI : ∀ k j, ¬ (24 ≤ k ∧ k ≤ 30) → k ≠ 38 → k ≠ 40 → ¬ (k = 0 ∧ (j = 1 ∨ j = 8)) → mI D k j = mI A k j := fun k j h1 h2 h3 h4 => by
      have hk : k ∉ [24, 25, 26, 27, 28, 29, 30] := fun y => h1 (by
        simp only [List.mem_cons, List.not_mem_nil, or_false] at y; omega)
      rw [hD, mI_sn (by omega), mI_sn (by omega), mI_sn (by omega), mI_sn (by omega), wC.2.2.2.2 k hk, SI k j (by omega)]
    have kD : Kp (fun k j => (XK p' k j ∨ (24 ≤ k ∧ k ≤ 30) ∨ k = 38 ∨ k = 40 ∨ (k = 0 ∧ (j = 1 ∨ j = 8)))) (fun k j => YL p' k j ∨ (k = 0 ∧ (j = 2 ∨ j = 3))) M D := ⟨by rw [D1]; exact kA.1, fun k hk => by rw [D1]; exact kA.2.1 k hk, fun k j hk hx => by
      rw [DI k j (fun y => hx (Or.inr (Or.inl y))) (fun y => hx (by omega)) (fun y => hx (by omega)) (fun y => hx (by omega))]
      exact kA.2.2.1 k j hk (fun y => hx (Or.inl y)), fun k j hk hy => by
      rw [DP, SP k j (fun y => hy (Or.inr y))]; exact kA.2.2.2 k j hk (fun y => hy (Or.inl y))⟩
    refine ⟨D, ?_, ?_, by rw [D1]; omega, by rw [wD.2.2.2.1, wC.2.2.2.1, SS]; omega, fun k' h1 h2 => by
      funext j
      rw [DI k' j (by omega) (by omega) (by omega) (by omega), o67 k' h1 h2]⟩
    · rw [town, if_pos rfl]
      unfold F_X8_town_j54 F_X0_clear F_X5_clear
      have t0 : A.1[0]? = some (8, 0) := LA.t rfl
      have q2 : gP (stI A 0 1 (-1)) 8 0 2 = some p := gP_t (M := stI A 0 1 (-1)) t0 p2
      have q3 : gP (stI A 0 1 (-1)) 8 0 3 = some p' := gP_t (M := stI A 0 1 (-1)) t0 p3
      have q4 : gP S 8 0 2 = some p' := gP_t (LS.t rfl) S2.1
      rw [Ls_0 LA, ob_t, if_pos rfl, q2, ob_t, q3, ob_t, pQ_t (M := stI A 0 1 (-1)) t0, ob_t, pQ_t (M := stP (stI A 0 1 (-1)) 0 2 (some p')) t0, ob_t, ← hS, q4, ob_t, Lp_0_4 LS, ob_t, P_c LS hp', eC, ob_t, Lp_0_6 LC, ob_t, Lc_38 LC, Ls_38 LC, ob_t, Ls_38 LC.st, ob_t, ob_t, Lp_0_7 LC.st.st, ob_t, Lc_40 LC.st.st, Ls_40 LC.st.st, ob_t, ob_t, pZ_t (Or.inl rfl) (LC.st.st.st.t rfl), ob_t, ← hD]
    · obtain ⟨d1, d2, d3', d4, d5, d6, d7⟩ := dr
      have rl : ∀ {x o}, RuL A x o → RuL D x o := fun {x o} h => by
        rcases h with h | ⟨k, l, h1, h2, h3, h4, h5, h6, h7, h8⟩
        · exact Or.inl h
        · have hk : 98 ≤ k := h3
          exact Or.inr ⟨k, l, h1, h2, h3, by rw [D1]; exact h4, by rw [DP, SP k 0 (by omega)]; exact h5, by rw [D1]; exact h6, h7, fun i hi => by rw [DI _ _ (by omega) (by omega) (by omega) (by omega)]; exact h8 i hi⟩
      have rn : ∀ j, (j = 10 ∨ j = 11) → ∃ o, RuL D (mP D p' j) o := fun j hj => by
        rw [DP, SP p' j (by omega)]
        rcases hj with rfl | rfl
        · exact ⟨_, rl d6⟩
        · exact ⟨_, rl d7⟩
      have ac := hc.2.2.2.2.2.2.2.1
      refine ⟨LD, ?_, by rw [DP]; exact S2.1, ⟨LD.PlO hp', gp_g gg, ?_, ?_, ?_, fun h hh => ⟨?_, ?_⟩, fun i hi => ?_, fun i hi => ?_, ?_, ?_⟩, fun k j hj hk => ?_, sC.wr wD (by decide), bg_gd gg _ (Nat.le_refl _), ac.kp kD hlen (fun i => ⟨fun y => by unfold YL at y; omega, fun y => by unfold YL at y; omega⟩) (fun b i hb y => by unfold NC at hb; unfold YL at y; omega), ⟨0, by omega, ?_, ?_, Nat.zero_le _, fun i t ht => (by cases ht)⟩, fun t ht => (by cases ht), ⟨?_, Nat.zero_le _, fun i e he => (by cases he)⟩, ?_, fun i hi => ?_, ⟨?_, Nat.zero_le _, fun i b hb => (by cases hb)⟩, ?_⟩
      · rw [DP, S2.2]
        rcases hpp with ⟨y1, y2⟩ | ⟨y1, y2⟩
        · exact Or.inr ⟨y2, by rw [y1]⟩
        · exact Or.inl ⟨y2, by rw [y1]⟩
      · rw [DI p' 0 (by omega) (by omega) (by omega) (by omega)]; exact d1.1
      · rw [DI p' 1 (by omega) (by omega) (by omega) (by omega)]; exact d1.2.1
      · rw [DI p' 2 (by omega) (by omega) (by omega) (by omega)]; exact d1.2.2
      · rw [DI _ _ (by omega) (by omega) (by omega) (by omega)]; exact (d3' h hh).2.1
      · rw [DI _ _ (by omega) (by omega) (by omega) (by omega)]; exact (d3' h hh).2.2
      · rw [DI _ _ (by omega) (by omega) (by omega) (by omega)]; exact (d4 i hi).2.1
      · rw [DI _ _ (by omega) (by omega) (by omega) (by omega)]; exact d5 i hi
      · rw [DP, SP p' 10 (by omega)]; exact (rl d6).q gg.2.2.2.2.2.1
      · rw [DP, SP p' 11 (by omega)]; exact (rl d7).q gg.2.2.2.2.2.2
      · obtain ⟨o, r⟩ := rn j hj
        rcases r with ⟨z, -⟩ | ⟨k', l, z1, -, z3, z4, z5, z6, -⟩
        · rw [z] at hk; cases hk
        · rw [z1] at hk
          have hk := Option.some.inj hk
          subst hk
          exact ⟨z3, z4, z5, _, z6⟩
      · rw [hD, mI_sn (by omega), mI_sn (by omega), mI_sn (by omega), mI_se]; rfl
      · rw [hD, mI_sn (by omega), mI_sn (by omega), mI_se]; rfl
      · rw [hD, mI_sn (by omega), mI_se]; rfl
      · show mI D 0 8 = 0
        rw [hD, mI_se]
      · rw [DI 57 i (by omega) (by omega) (by omega) (by omega), kA.2.2.1 57 i (by omega) (by unfold XK; omega)]
        exact hc.2.2.2.2.2.2.2.2.2.2.2.2.1 i hi
      · rw [DI 1 1 (by omega) (by omega) (by omega) (by omega)]; exact a11
      · rw [hD, mI_sn (by omega), mI_sn (by omega), mI_sn (by omega), mI_sn (by omega), wC.2.2.2.2 0 (by decide), hS, mI_stP, mI_stP, mI_se]
end
