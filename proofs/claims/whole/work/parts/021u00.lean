/-! ===== the law ===== -/
section
variable {M : Mem} {p m : Nat} {g : Pg} {s : Sg} {L : List Sg} {E : List Se} {I : Option (Sg × List Sg × List Se)} {R : Nat → Int32} {T : List Nat} {f : Int32}
theorem AF.step {co : Option (Int32 × Mem)} {mo : Mem → Option (Int32 × Mem)} (hL : Lay M) (h : AF m co mo) {y : Int32} : ∃ M', ckO M 8 0 (bd2 co fun v30 M29 => ckO M29 9 67 (bd2 (mo M29) fun v44 M43 => if v30 = v44 then some (.inl (y, M43)) else some (.inr (.inr ((0 : Int32), M43))))) = (some (.inl (y, M')) : Option ((Int32 × Mem) ⊕ (Mem ⊕ (Int32 × Mem)))) ∧ Inv M' (m + 1) := by
  obtain ⟨v, M1, M2, e1, e2, l1, hI⟩ := h
  exact ⟨M2, by rw [Lc_0 hL, e1, bd2_t, Lc_67 l1, e2, bd2_t, if_pos rfl], hI⟩
theorem VF.step {co : Option Mem} {mo : Mem → Option Mem} (hL : Lay M) (h : VF m co mo) {y : Int32} : ∃ M', ckO M 8 0 (co.bind fun M605 => ckO M605 9 67 ((mo M605).bind fun M609 => some (.inl (y, M609)))) = (some (.inl (y, M')) : Option ((Int32 × Mem) ⊕ (Mem ⊕ (Int32 × Mem)))) ∧ Inv M' (m + 1) := by
  obtain ⟨M1, M2, e1, e2, l1, hI⟩ := h
  exact ⟨M2, by rw [Lc_0 hL, e1, ob_t, Lc_67 l1, e2, ob_t], hI⟩
theorem LFb.step {FL : Option (Int32 × Mem)} {mo : Mem → Option (Int32 × Mem)} (h : LFb m FL mo) {l4 : Int32} {K : Nat} {xs : Nat → Int32} : ∃ M', (bd2 FL fun v51 M50 => ckO M50 9 67 (bd2 (mo M50) fun v57 M56 => ckO M56 9 67 ((F_X9_thrown 67 M56).bind fun v60 => if v60 = v51 then (if v51 = 0 then (aL M56 97 (0 : Int32)).bind fun v270 => (if v57 = 0 then F_L_law_j937_23 0 67 97 l4 (0 : Int64) v270 M56 K xs else F_L_law_j937_23 0 67 97 l4 (1 : Int64) v270 M56 K xs) else some (.inl (l4 + (6 : Int32), M56))) else some (.inr (.inr ((0 : Int32), M56)))))) = (some (.inl (l4 + (6 : Int32), M')) : Option ((Int32 × Mem) ⊕ (Mem ⊕ (Int32 × Mem)))) ∧ Inv M' (m + 1) := by
  obtain ⟨k, M1, v, M2, e1, e2, l1, l2, t, hv, hI⟩ := h
  refine ⟨M2, ?_, hI⟩
  unfold F_X9_thrown F_L_law_j937_23
  rw [e1, bd2_t, Lc_67 l1, e2, bd2_t, Lc_67 l2, Lf_67 l2, ob_t, ob_t, t, if_pos rfl]
  by_cases c : k = 0
  · rw [if_pos c, aL97 l2, ob_t]
    rcases hv c with ⟨z1, z2⟩ | ⟨z1, z2⟩
    · rw [if_pos z1, z2, lgc, if_pos rfl]
    · rw [if_neg (by rw [z1]; decide), z2, lgc, if_pos rfl]
  · rw [if_neg c]
set_option maxHeartbeats 4000000 in
theorem law_turn {K : Nat} {xs : Nat → Int32} (h : Inv M m) (hm5 : m < 512) (hK : 6 * m + 6 ≤ K) (hK2 : K ≤ 3072) : ∃ M', F_L_law_s23 0 67 97 (nI (6 * m)) M K xs = some (.inl (nI (6 * m) + 6, M')) ∧ Inv M' (m + 1) := by
  obtain ⟨p, g, s, L, E, I, R, T, f, hc, hm, hr⟩ := h
  have c := hc.cq hr (by omega)
  have hL := hc.1
  have sc : ∀ j, j < 6 → scr K xs (nI (6 * m) + nI j) = some (xs (6 * m + j)) := fun j hj => by
    unfold scr
    rw [nI_add, if_neg (nI_in (by omega) (by omega)), nI_clamp (by omega)]
  have s0 : scr K xs (nI (6 * m)) = some (xs (6 * m)) := by
    unfold scr
    rw [if_neg (nI_in (by omega) (by omega)), nI_clamp (by omega)]
  have s1 : scr K xs (nI (6 * m) + 1) = some (xs (6 * m + 1)) := sc 1 (by omega)
  have s2 : scr K xs (nI (6 * m) + 2) = some (xs (6 * m + 2)) := sc 2 (by omega)
  have s3 : scr K xs (nI (6 * m) + 3) = some (xs (6 * m + 3)) := sc 3 (by omega)
  have s4 : scr K xs (nI (6 * m) + 4) = some (xs (6 * m + 4)) := sc 4 (by omega)
  have s5 : scr K xs (nI (6 * m) + 5) = some (xs (6 * m + 5)) := sc 5 (by omega)
  generalize xs (6 * m) = x0 at *
  generalize xs (6 * m + 1) = x1 at *
  generalize xs (6 * m + 2) = x2 at *
  generalize xs (6 * m + 3) = x3 at *
  generalize xs (6 * m + 4) = x4 at *
  generalize xs (6 * m + 5) = x5 at *
  have hlt : ¬ (Int32.ofNat K - (6 : Int32)) < nI (6 * m) := by
    have e : Int32.ofNat K - (6 : Int32) = nI (K - 6) := nI_sub (a := K) (b := 6) (by omega)
    rw [e]; exact nI_nlt (by omega) (by omega)
  unfold F_L_law_s23
  rw [if_neg hlt, s0, ob_t]
  generalize x0 &&& (63 : Int32) = q
  generalize nI (6 * m) = l4 at *
  by_cases h0 : q = (0 : Int32)
  · rw [if_pos h0]
    simp only [s1, s2, s3, s4, s5, ob_t]
    exact AF.step hL (A_feed hc hm hr hm5 x1 x2 x3 x4 x5)
  rw [if_neg h0]
  by_cases h1 : q = (1 : Int32)
  · rw [if_pos h1]
    simp only [s1, ob_t]
    exact LF.step (A_town hc hm hr hm5 x1)
  rw [if_neg h1]
  by_cases h2 : q = (2 : Int32)
  · rw [if_pos h2]
    obtain ⟨e1, M2, e2, hI⟩ := A_fault hc hm hr
    exact ⟨M2, by rw [Lc_0 hL, e1, ob_t, Lc_67 hL, e2, bd2_t, if_pos rfl], hI⟩
  rw [if_neg h2]
  by_cases h3 : q = (3 : Int32)
  · rw [if_pos h3]
    simp only [s1, ob_t]
    exact LF.step (A_count hc hm hr hm5 x1)
  rw [if_neg h3]
  by_cases h4 : q = (4 : Int32)
  · rw [if_pos h4]
    simp only [s1, s2, ob_t]
    exact LF.step (FL := F_L_house 0 x1 x2 97 M) (mo := F_X9_house 67 x1 x2) (by unfold F_L_house; exact LQ0 hc hm hr (P_house c x1 x2))
  rw [if_neg h4]
  by_cases h5 : q = (5 : Int32)
  · rw [if_pos h5]
    simp only [s1, s2, ob_t]
    exact LF.step (FL := F_L_person 0 x1 x2 97 M) (mo := F_X9_person 67 x1 x2) (by unfold F_L_person; exact LQ0 hc hm hr (P_person c x1 x2))
  rw [if_neg h5]
  by_cases h6 : q = (6 : Int32)
  · rw [if_pos h6]
    simp only [s1, s2, ob_t]
    exact LF.step (FL := F_L_eases 0 x1 x2 97 M) (mo := F_X9_eases 67 x1 x2) (by unfold F_L_eases; exact LQ0 hc hm hr (P_eases c x1 x2))
  rw [if_neg h6]
  by_cases h7 : q = (7 : Int32)
  · rw [if_pos h7]
    simp only [s1, ob_t]
    exact AF.step hL (A_days hc hm hr hm5 x1)
  rw [if_neg h7]
  by_cases h8 : q = (8 : Int32)
  · rw [if_pos h8]
    simp only [s1, s2, ob_t]
    exact LF.step (A_putIn hc hm hr hm5 x1 x2)
  rw [if_neg h8]
  by_cases h9 : q = (9 : Int32)
  · rw [if_pos h9]
    simp only [s1, ob_t]
    exact LF.step (A_out hc hm hr hm5 x1)
  rw [if_neg h9]
  by_cases h10 : q = (10 : Int32)
  · rw [if_pos h10]
    simp only [s1, s2, ob_t]
    exact LF.step (A_stuff hc hm hr hm5 x1 x2)
  rw [if_neg h10]
  by_cases h11 : q = (11 : Int32)
  · rw [if_pos h11]
    simp only [s1, s2, ob_t]
    exact LFb.step (A_change hc hm hr hm5 x1 x2)
  rw [if_neg h11]
  by_cases h12 : q = (12 : Int32)
  · rw [if_pos h12]
    exact AF.step hL (A_letIn hc hm hr hm5)
  rw [if_neg h12]
  by_cases h13 : q = (13 : Int32)
  · rw [if_pos h13]
    exact AF.step hL (A_undo hc hm hr hm5)
  rw [if_neg h13]
  by_cases h14 : q = (14 : Int32)
  · rw [if_pos h14]
    simp only [s1, s2, s3, ob_t]
    exact LF.step (FL := F_L_then 0 x1 x2 x3 97 M) (mo := F_X9_then 67 x1 x2 x3) (by unfold F_L_then; exact LQ2 hc hm hr (P_then c x1 x2 x3))
  rw [if_neg h14]
  by_cases h15 : q = (15 : Int32)
  · rw [if_pos h15]
    simp only [s1, s2, ob_t]
    exact LF.step (FL := F_L_worn 0 x1 x2 97 M) (mo := F_X9_worn 67 x1 x2) (by unfold F_L_worn; exact LQ2 hc hm hr (P_worn c x1 x2))
  rw [if_neg h15]
  by_cases h16 : q = (16 : Int32)
  · rw [if_pos h16]
    simp only [s1, ob_t]
    exact LF.step (FL := F_L_burst 0 x1 97 M) (mo := F_X9_burst 67 x1) (by unfold F_L_burst; exact LQ0 hc hm hr (P_burst c x1))
  rw [if_neg h16]
  by_cases h17 : q = (17 : Int32)
  · rw [if_pos h17]
    simp only [s1, ob_t]
    exact LF.step (FL := F_L_wriggles 0 x1 97 M) (mo := F_X9_wriggles 67 x1) (by unfold F_L_wriggles; exact LQ0 hc hm hr (P_wriggles c x1))
  rw [if_neg h17]
  by_cases h18 : q = (18 : Int32)
  · rw [if_pos h18]
    simp only [s1, ob_t]
    exact LF.step (FL := F_L_barefoot 0 x1 97 M) (mo := F_X9_barefoot 67 x1) (by unfold F_L_barefoot; exact LQ1 hc hm hr (P_barefoot c x1))
  rw [if_neg h18]
  by_cases h19 : q = (19 : Int32)
  · rw [if_pos h19]
    simp only [s1, ob_t]
    exact LF.step (FL := F_L_last 0 x1 97 M) (mo := F_X9_last 67 x1) (by unfold F_L_last; exact LQ0 hc hm hr (P_last c x1))
  rw [if_neg h19]
  by_cases h20 : q = (20 : Int32)
  · rw [if_pos h20]
    simp only [s1, ob_t]
    exact LF.step (FL := F_L_goes 0 x1 97 M) (mo := F_X9_goes 67 x1) (by unfold F_L_goes; exact LQ0 hc hm hr (P_goes c x1))
  rw [if_neg h20]
  by_cases h21 : q = (21 : Int32)
  · rw [if_pos h21]
    simp only [s1, ob_t]
    exact LF.step (FL := F_L_match 0 x1 97 M) (mo := F_X9_match 67 x1) (by unfold F_L_match; exact LQ0 hc hm hr (P_match c x1))
  rw [if_neg h21]
  by_cases h22 : q = (22 : Int32)
  · rw [if_pos h22]
    simp only [s1, ob_t]
    exact LF.step (FL := F_L_matched 0 x1 97 M) (mo := F_X9_matched 67 x1) (by unfold F_L_matched; exact LQ0 hc hm hr (P_matched c x1))
  rw [if_neg h22]
  by_cases h23 : q = (23 : Int32)
  · rw [if_pos h23]
    simp only [s1, ob_t]
    exact LF.step (FL := F_L_trade 0 x1 97 M) (mo := F_X9_trade 67 x1) (by unfold F_L_trade; exact LQ0 hc hm hr (P_trade c x1))
  rw [if_neg h23]
  by_cases h24 : q = (24 : Int32)
  · rw [if_pos h24]
    simp only [s1, s2, ob_t]
    exact LF.step (FL := F_L_toStuff 0 x1 x2 97 M) (mo := F_X9_toStuff 67 x1 x2) (by unfold F_L_toStuff; exact LQ0 hc hm hr (P_toStuff c x1 x2))
  rw [if_neg h24]
  by_cases h25 : q = (25 : Int32)
  · rw [if_pos h25]
    simp only [s1, s2, ob_t]
    exact LF.step (FL := F_L_toWait 0 x1 x2 97 M) (mo := F_X9_toWait 67 x1 x2) (by unfold F_L_toWait; exact LQ0 hc hm hr (P_toWait c x1 x2))
  rw [if_neg h25]
  by_cases h26 : q = (26 : Int32)
  · rw [if_pos h26]
    simp only [s1, ob_t]
    exact LF.step (FL := F_L_round 0 x1 97 M) (mo := F_X9_round 67 x1) (by unfold F_L_round; exact LQ1 hc hm hr (P_round c x1))
  rw [if_neg h26]
  by_cases h27 : q = (27 : Int32)
  · rw [if_pos h27]
    simp only [s1, s2, s3, ob_t]
    exact LF.step (A_see hc hm hr hm5 x1 x2 x3)
  rw [if_neg h27]
  by_cases h28 : q = (28 : Int32)
  · rw [if_pos h28]
    exact VF.step hL (A_forget hc hm hr)
  rw [if_neg h28]
  by_cases h29 : q = (29 : Int32)
  · rw [if_pos h29]
    simp only [s1, ob_t]
    exact LF.step (A_large hc hm hr hm5 x1)
  rw [if_neg h29]
  by_cases h30 : q = (30 : Int32)
  · rw [if_pos h30]
    simp only [s1, ob_t]
    exact LF.step (A_next hc hm hr hm5 x1)
  rw [if_neg h30]
  by_cases h31 : q = (31 : Int32)
  · rw [if_pos h31]
    simp only [s1, s2, s3, ob_t]
    exact LF.step (FL := F_L_byDamp 0 x1 x2 x3 97 M) (mo := F_X9_byDamp 67 x1 x2 x3) (by unfold F_L_byDamp; exact LQ2 hc hm hr (P_byDamp c x1 x2 x3))
  rw [if_neg h31]
  by_cases h32 : q = (32 : Int32)
  · rw [if_pos h32]
    simp only [s1, s2, s3, s4, ob_t]
    exact LF.step (FL := F_L_game 0 x1 x2 x3 x4 97 M) (mo := F_X9_game 67 x1 x2 x3 x4) (by unfold F_L_game; exact LQ2 hc hm hr (P_game c x1 x2 x3 x4))
  rw [if_neg h32]
  by_cases h33 : q = (33 : Int32)
  · rw [if_pos h33]
    simp only [s1, s2, s3, ob_t]
    exact LF.step (FL := F_L_years 0 x1 x2 x3 97 M) (mo := F_X9_years 67 x1 x2 x3) (by unfold F_L_years; exact LQ2 hc hm hr (P_years c x1 x2 x3))
  rw [if_neg h33]
  by_cases h34 : q = (34 : Int32)
  · rw [if_pos h34]
    simp only [s1, ob_t]
    exact LF.step (FL := F_L_heirs 0 x1 97 M) (mo := F_X9_heirs 67 x1) (by unfold F_L_heirs; exact LQ0 hc hm hr (P_heirs c x1))
  rw [if_neg h34]
  by_cases h35 : q = (35 : Int32)
  · rw [if_pos h35]
    simp only [s1, s2, ob_t]
    exact LF.step (FL := F_L_toGrow 0 x1 x2 97 M) (mo := F_X9_toGrow 67 x1 x2) (by unfold F_L_toGrow; exact LQ0 hc hm hr (P_toGrow c x1 x2))
  rw [if_neg h35]
  by_cases h36 : q = (36 : Int32)
  · rw [if_pos h36]
    simp only [s1, ob_t]
    exact LF.step (FL := F_L_paid 0 x1 97 M) (mo := F_X9_paid 67 x1) (by unfold F_L_paid; exact LQ1 hc hm hr (P_paid c x1))
  rw [if_neg h36]
  by_cases h37 : q = (37 : Int32)
  · rw [if_pos h37]
    simp only [s1, ob_t]
    exact LF.step (FL := F_L_wornest 0 x1 97 M) (mo := F_X9_wornest 67 x1) (by unfold F_L_wornest; exact LQ1 hc hm hr (P_wornest c x1))
  rw [if_neg h37]
  by_cases h38 : q = (38 : Int32)
  · rw [if_pos h38]
    simp only [s1, ob_t]
    exact LF.step (FL := F_L_dampest 0 x1 97 M) (mo := F_X9_dampest 67 x1) (by unfold F_L_dampest; exact LQ1 hc hm hr (P_dampest c x1))
  rw [if_neg h38]
  by_cases h39 : q = (39 : Int32)
  · rw [if_pos h39]
    simp only [s1, ob_t]
    exact LF.step (FL := F_L_kept 0 x1 97 M) (mo := F_X9_kept 67 x1) (by unfold F_L_kept; exact LQ1 hc hm hr (P_kept c x1))
  rw [if_neg h39]
  by_cases h40 : q = (40 : Int32)
  · rw [if_pos h40]
    simp only [s1, ob_t]
    exact LF.step (FL := F_L_sorest 0 x1 97 M) (mo := F_X9_sorest 67 x1) (by unfold F_L_sorest; exact LQ1 hc hm hr (P_sorest c x1))
  rw [if_neg h40]
  by_cases h41 : q = (41 : Int32)
  · rw [if_pos h41]
    simp only [s1, s2, s3, ob_t]
    exact LF.step (FL := F_L_eased 0 x1 x2 x3 97 M) (mo := F_X9_eased 67 x1 x2 x3) (by unfold F_L_eased; exact LQ2 hc hm hr (P_eased c x1 x2 x3))
  rw [if_neg h41]
  by_cases h42 : q = (42 : Int32)
  · rw [if_pos h42]
    simp only [s1, ob_t]
    exact LF.step (FL := F_L_free 0 x1 97 M) (mo := F_X9_free 67 x1) (by unfold F_L_free; exact LQ0 hc hm hr (P_free c x1))
  rw [if_neg h42]
  by_cases h43 : q = (43 : Int32)
  · rw [if_pos h43]
    simp only [s1, ob_t]
    exact LF.step (FL := F_L_larger 0 x1 97 M) (mo := F_X9_larger 67 x1) (by unfold F_L_larger; exact LQ0 hc hm hr (P_larger c x1))
  rw [if_neg h43]
  by_cases h44 : q = (44 : Int32)
  · rw [if_pos h44]
    simp only [s1, ob_t]
    exact LF.step (FL := F_L_wide 0 x1 97 M) (mo := F_X9_wide 67 x1) (by unfold F_L_wide; exact LQ1 hc hm hr (P_wide c x1))
  rw [if_neg h44]
  by_cases h45 : q = (45 : Int32)
  · rw [if_pos h45]
    simp only [s1, s2, ob_t]
    exact LF.step (FL := F_L_endures 0 x1 x2 97 M) (mo := F_X9_endures 67 x1 x2) (by unfold F_L_endures; exact LQ0 hc hm hr (P_endures c x1 x2))
  rw [if_neg h45]
  by_cases h46 : q = (46 : Int32)
  · rw [if_pos h46]
    simp only [s1, ob_t]
    exact LF.step (FL := F_L_ringed 0 x1 97 M) (mo := F_X9_ringed 67 x1) (by unfold F_L_ringed; exact LQ0 hc hm hr (P_ringed c x1))
  rw [if_neg h46]
  by_cases h47 : q = (47 : Int32)
  · rw [if_pos h47]
    exact VF.step hL (A_image hc hm hr hm5)
  rw [if_neg h47]
  by_cases h48 : q = (48 : Int32)
  · rw [if_pos h48]
    exact AF.step hL (A_restore hc hm hr hm5)
  rw [if_neg h48]
  refine ⟨M, rfl, p, g, s, L, E, I, R, T, f, hc, hm, hr.mono (by omega)⟩
/-- the law answers 1, in numbers -/
theorem F_law_ok (K : Nat) (xs : Nat → Int32) (hK : K ≤ 3072) : ∃ M' : Mem, F_L_law M00 K xs = some (1, M') := by
  obtain ⟨M4, M9, e1, l4, e2, l9, M11, e3, hI⟩ := law_init
  obtain ⟨r, er, hr⟩ := loop_ex (step := fun z : Int32 × Mem => F_L_law_s23 0 67 97 z.1 z.2 K xs) (fun i z => ∃ M', z = (nI (6 * i), M') ∧ Inv M' i) (fun r => ∃ M', r = .inl M') (K / 6) (by
    rintro i z hi ⟨M', rfl, hI⟩
    rcases Nat.lt_or_eq_of_le hi with hlt | heq
    · right
      obtain ⟨M2, e, h2⟩ := law_turn (xs := xs) hI (by omega) (show 6 * i + 6 ≤ K by omega) hK
      refine ⟨hlt, _, e, M2, ?_, h2⟩
      rw [show nI (6 * i) + 6 = nI (6 * i + 6) from nI_add _ 6]
      rfl
    · left
      refine ⟨.inl M', ?_, M', rfl⟩
      have hlt : (Int32.ofNat K - (6 : Int32)) < nI (6 * i) := by
        have e : (Int32.ofNat K - (6 : Int32)).toInt = K - 6 := by
          have : (Int32.ofNat K).toInt = K := nI_toInt (n := K) (by omega)
          have e6 : (6 : Int32).toInt = 6 := rfl
          rw [ti_sub (by rw [this, e6]; omega) (by rw [this, e6]; omega), this, e6]
        rw [ti_lt, e, nI_toInt (by omega)]
        omega
      unfold F_L_law_s23
      dsimp only
      rw [if_pos hlt]) (s := (nI (6 * 0), M11)) ⟨M11, rfl, hI⟩
  obtain ⟨M', rfl⟩ := hr
  refine ⟨M', ?_⟩
  unfold F_L_law
  have z0 : M00.1.length = 0 := rfl
  have e1' : (nO M00 8 16).bind (fun M1 => F_X8_init M00.1.length M1) = some M4 := e1
  obtain ⟨N1, n1, n2⟩ := bindE e1'
  rw [n1, ob_t, n2, ob_t]
  obtain ⟨N2, n3, n4⟩ := bindE e2
  have n4' : F_X9_init M4.1.length N2 = some M9 := by rw [l4]; exact n4
  rw [n3, ob_t, n4', ob_t, e3, ob_t, z0, l4, l9]
  have er' : loop (fun z : Int32 × Mem => F_L_law_s23 0 67 97 z.1 z.2 K xs) ((0 : Int32), M11) = some (.inl M') := er
  rw [er', ob_t]
  rfl
end
