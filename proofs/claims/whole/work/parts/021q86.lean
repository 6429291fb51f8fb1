/-! ===== a rule is read: the reference, whole ===== -/
section
variable {N N' N1 N2 : Mem} {B : Nat → Nat} {n t b q : Nat} {X : Nat → Nat → Prop}
def XE (b k j : Nat) : Prop := XT b k j ∨ (k = 67 ∧ j = 30)
theorem XT_E {k j : Nat} (h : XT b k j) : XE b k j := Or.inl h
theorem RF_dr {s : Nat} : ∀ (v : List Nat) (s : Nat) (N : Mem), Lay N → mI N 67 29 = nI s → b ≤ s → mI N 67 31 = nI v.length → stW (mI N 81) v → (∀ x ∈ v, x ≤ 14) → v.length ≤ 700 → s + v.length < 1400 → ∃ N' s', loop (fun z => F_X9_drops_s0 67 (nI 0) z) N = some N' ∧ Lay N' ∧ mI N' 67 29 = nI s' ∧ b ≤ s' ∧ s' < 1400 ∧ Fr (fun k j => (k = 67 ∧ (j = 29 ∨ j = 31)) ∨ (k = 80 ∧ b ≤ j)) N N' := by
  intro v
  induction v with
  | nil =>
    intro s N L h1 h2 h3 _ _ _ h7
    refine ⟨N, s, loop_end ?_, L, h1, h2, by have : s + 0 < 1400 := h7; omega, Fr.rfl'⟩
    unfold F_X9_drops_s0
    rw [Lf_67 L, ob_t, h3, if_pos (show nI ([] : List Nat).length ≤ 0 by decide)]
  | cons x v ih =>
    intro s N L h1 h2 h3 h4 h5 h6 h7
    have hx := h5 x List.mem_cons_self
    rw [List.length_cons] at h3 h6 h7
    have sb : nI (v.length + 1) - (1 : Int32) = nI v.length := nI_sub (a := v.length + 1) (b := 1) (by omega)
    by_cases c : x = 14
    · refine ⟨N, s, loop_end ?_, L, h1, h2, by omega, Fr.rfl'⟩
      unfold F_X9_drops_s0
      rw [Lf_67 L, ob_t, h3, if_neg (show ¬ nI (v.length + 1) ≤ 0 from nI_ge (a := 0) (by omega) (by omega)), Lp_67_39 L, ob_t, ob_t, sb, La_81 L (by omega), ob_t, h4.1, M_open hx, ob_t, if_pos c, if_neg (by decide)]
    · have f1 : Fr (fun k j => (k = 67 ∧ (j = 29 ∨ j = 31)) ∨ (k = 80 ∧ b ≤ j)) N (stI (stI (stI N 67 31 (nI v.length)) 80 s (nI x)) 67 29 (nI (s + 1))) := ((Fr.rfl'.st (Or.inl ⟨rfl, Or.inr rfl⟩)).st (Or.inr ⟨rfl, h2⟩)).st (Or.inl ⟨rfl, Or.inl rfl⟩)
      obtain ⟨N', s', e, z1, z2, z3, z4, z5⟩ := ih (s + 1) (stI (stI (stI N 67 31 (nI v.length)) 80 s (nI x)) 67 29 (nI (s + 1))) L.st.st.st mI_se (by omega) (by rw [mI_sn (by omega), mI_sn (by omega), mI_se]) (stW_g v (fun i hi => f1.at (by omega)) h4.2) (fun y hy => h5 y (List.mem_cons_of_mem _ hy)) (by omega) (by omega)
      refine ⟨N', s', ?_, z1, z2, z3, z4, f1.trans z5⟩
      rw [loop_turn (s' := stI (stI (stI N 67 31 (nI v.length)) 80 s (nI x)) 67 29 (nI (s + 1))), e]
      unfold F_X9_drops_s0
      rw [Lf_67 L, ob_t, h3, if_neg (show ¬ nI (v.length + 1) ≤ 0 from nI_ge (a := 0) (by omega) (by omega)), Lp_67_39 L, ob_t, ob_t, sb, La_81 L (by omega), ob_t, h4.1, M_open hx, ob_t, if_neg c, if_pos rfl, ob_t, ob_t, sb, La_81 L (by omega), ob_t, h4.1, M_sth hx, ob_t, if_neg (nI_nlt (Nat.zero_le _) (sth_6 x)), ob_t, sb, Ls_67 L, ob_t, Lp_67_39 L.st, ob_t, Lf_67 L.st, ob_t, mI_se, La_81 L.st (by omega), ob_t, mI_sn (by omega), h4.1, Lc_67 L.st, M_puts L.st (by rw [mI_sn (by omega)]; exact h1) (by omega), ob_t]
theorem RF.fin {k a : Nat} (r : RF b N k a) : ∃ N', F_X9_expression_j330 67 N = some N' ∧ Lay N' ∧ mI N' 67 13 = nI k ∧ mI N' 67 14 = nI a ∧ 1 ≤ k ∧ k ≤ 5 ∧ Fr (XT b) N N' := by
  have key : ∀ N : Mem, Lay N → mI N 67 13 = nI k → mI N 67 14 = nI a → (∃ (s : Nat) (v : List Nat), mI N 67 29 = nI s ∧ b ≤ s ∧ mI N 67 31 = nI v.length ∧ stW (mI N 81) v ∧ (∀ x ∈ v, x ≤ 14) ∧ v.length ≤ 700 ∧ s + v.length < 1400) → ∃ N', F_X9_expression_j350 67 N = some N' ∧ Lay N' ∧ mI N' 67 13 = nI k ∧ mI N' 67 14 = nI a ∧ Fr (XT b) N N' := fun N L h13 h14 ⟨s, v, g1, g2, g3, g4, g5, g6, g7⟩ => by
    obtain ⟨N1, s1, e1, L1, y1, y2, y3, f1⟩ := RF_dr (s := s) v s N L g1 g2 g3 g4 g5 g6 g7
    have f2 : Fr (XT b) N1 (stI (stI N1 80 s1 (nI 0)) 67 29 (nI (s1 + 1))) := (Fr.rfl'.st (by unfold XT; omega)).st (by unfold XT; omega)
    refine ⟨stI (stI N1 80 s1 (nI 0)) 67 29 (nI (s1 + 1)), ?_, L1.st.st, ?_, ?_, (f1.mono fun k j y => by unfold XT; omega).trans f2⟩
    rotate_left 1
    · rw [mI_sn (by omega), mI_sn (by omega), f1.at (by omega)]; exact h13
    · rw [mI_sn (by omega), mI_sn (by omega), f1.at (by omega)]; exact h14
    · unfold F_X9_expression_j350 F_X9_drops
      rw [Lc_67 L, show (0 : Int32) = nI 0 from rfl, e1, ob_t, ob_t, Lc_67 L1, M_puts L1 y1 y3, ob_t]
  obtain ⟨L, hf, s, v, g1, g2, g3, g4, g5, g6, g7⟩ := r
  unfold F_X9_expression_j330
  rcases hf with ⟨h13, h1, h5, h14⟩ | ⟨h13, h1, h19, dp, h32, hd⟩
  · obtain ⟨N', e, z1, z2, z3, z4⟩ := key N L h13 h14 ⟨s, v, g1, g2, g3, g4, g5, g6, g7⟩
    refine ⟨N', ?_, z1, z2, z3, h1, h5, z4⟩
    rw [Lc_67 L, M_bad L (by rw [h13]; exact neL0 (by omega) (by omega)), ob_t, if_pos rfl, e]
  · subst h1
    have f1 : Fr (fun k j => k = 67 ∧ (j = 13 ∨ j = 14)) N (stI (stI N 67 13 (nI 1)) 67 14 (nI a)) := (Fr.rfl'.st ⟨rfl, Or.inl rfl⟩).st ⟨rfl, Or.inr rfl⟩
    obtain ⟨N', e, z1, z2, z3, z4⟩ := key (stI (stI N 67 13 (nI 1)) 67 14 (nI a)) L.st.st (by rw [mI_sn (by omega), mI_se]) mI_se ⟨s, v, (f1.at (by omega)).trans g1, g2, (f1.at (by omega)).trans g3, stW_g v (fun i hi => f1.at (by omega)) g4, g5, g6, g7⟩
    refine ⟨N', ?_, z1, z2, z3, by omega, by omega, (f1.mono fun k j y => by unfold XT; omega).trans z4⟩
    have gd : F_X9_isGood 67 N = some 1 := by unfold F_X9_isGood; rw [Lf_67 L, ob_t, h13, if_pos rfl]
    have wr : F_X9_wrong 67 (1 : Int32) N = some (stI (stI N 67 13 (nI 1)) 67 14 (nI a)) := by
      unfold F_X9_wrong
      rw [Lf_67 L, ob_t, h13, if_pos rfl, Ls_67 L, ob_t, Lf_67 L.st, ob_t, mI_sn (by omega), h19, Ls_67 L.st, ob_t]; rfl
    rw [Lc_67 L, gd, ob_t, if_neg (by decide), Lf_67 L, ob_t, h32, if_neg (show ¬ nI dp ≤ (1 : Int32) from nI_ge (a := 1) (by omega) (by omega)), Lc_67 L, wr, ob_t, e]
theorem M_expr (ht : t ≤ 1) (k : TkM B n q N) (h13 : mI N 67 13 = 0) (h14 : mI N 67 14 = -1) (h29 : mI N 67 29 = nI b) (hb : b + 2 ≤ 2 * q) :
    ((pjP B n t 37 0 0 ([], q, 0, 0)).2.2.1 = 0 → ∃ N', F_X9_expression 67 (nI (5 + t)) N = some N' ∧ TkM B n (pjP B n t 37 0 0 ([], q, 0, 0)).2.1 N' ∧ (mI N' 67 13 = 0 ∧ mI N' 67 14 = -1) ∧ lyM (mI N' 80) ((pjP B n t 37 0 0 ([], q, 0, 0)).1.map toM) b ∧ mI N' 67 29 = nI (b + lenM ((pjP B n t 37 0 0 ([], q, 0, 0)).1.map toM) + 1) ∧ b + lenM ((pjP B n t 37 0 0 ([], q, 0, 0)).1.map toM) + 1 ≤ 2 * (pjP B n t 37 0 0 ([], q, 0, 0)).2.1 ∧ b + lenM ((pjP B n t 37 0 0 ([], q, 0, 0)).1.map toM) < 1400 ∧ Fr (XE b) N N') ∧
    ((pjP B n t 37 0 0 ([], q, 0, 0)).2.2.1 ≠ 0 → ∃ N', F_X9_expression 67 (nI (5 + t)) N = some N' ∧ Lay N' ∧ mI N' 67 13 = nI (pjP B n t 37 0 0 ([], q, 0, 0)).2.2.1 ∧ mI N' 67 14 = nI (pjP B n t 37 0 0 ([], q, 0, 0)).2.2.2 ∧ 1 ≤ (pjP B n t 37 0 0 ([], q, 0, 0)).2.2.1 ∧ (pjP B n t 37 0 0 ([], q, 0, 0)).2.2.1 ≤ 5 ∧ Fr (XE b) N N') := by
  have L := k.1.1
  have hn := k.1.2.1
  have hq := k.2.1
  have gd : F_X9_isGood 67 N = some 1 := by unfold F_X9_isGood; rw [Lf_67 L, ob_t, h13, if_pos rfl]
  have f0 : Fr (fun k j => (k = 67 ∧ (j = 30 ∨ j = 31 ∨ j = 32)) ∨ k = 82) N (stI (stI (stI (stI (stI N 67 30 (nI (5 + t))) 67 31 0) 67 32 0) 67 32 (nI 1)) 82 1 0) := ((((Fr.rfl'.st (Or.inl ⟨rfl, Or.inl rfl⟩)).st (Or.inl ⟨rfl, Or.inr (Or.inl rfl)⟩)).st (Or.inl ⟨rfl, Or.inr (Or.inr rfl)⟩)).st (Or.inl ⟨rfl, Or.inr (Or.inr rfl)⟩)).st (Or.inr rfl)
  have fE : ∀ {N'}, Fr (XT b) (stI (stI (stI (stI (stI N 67 30 (nI (5 + t))) 67 31 0) 67 32 0) 67 32 (nI 1)) 82 1 0) N' → Fr (XE b) N N' := fun {N'} f => (f0.mono fun k j y => by unfold XE XT; omega).trans (f.mono fun _ _ => XT_E)
  generalize hS : stI (stI (stI (stI (stI N 67 30 (nI (5 + t))) 67 31 0) 67 32 0) 67 32 (nI 1)) 82 1 0 = S at f0 fE
  have r0 : RC B n t b S q [] [] (0 + 1) (fun _ => 0) := by
    refine ⟨k.fr f0 (by rw [← hS]; rfl) (fun j hj => by omega) (fun i => by omega), (f0.at (by omega)).trans h13, ⟨(f0.at (by omega)).trans h29, trivial⟩, ⟨?_, trivial, fun x hx => absurd hx List.not_mem_nil⟩, ⟨?_, by omega, fun j hj => ?_⟩, ?_⟩
    · rw [← hS, mI_sn (by omega), mI_sn (by omega), mI_sn (by omega), mI_se]; rfl
    · rw [← hS, mI_sn (by omega), mI_se]
    · have : j = 1 := by omega
      subst this
      rw [← hS, mI_se]; exact ⟨rfl, Nat.zero_le 1⟩
    · exact ⟨by rw [← hS, mI_sn (by omega), mI_sn (by omega), mI_sn (by omega), mI_sn (by omega), mI_se], (f0.at (by omega)).trans h14⟩
  have b0 : BD b q [] [] := by unfold BD; show b + 0 + 0 + 2 ≤ 2 * q ∧ 0 ≤ q; omega
  have ex : ∀ N0 NF, F_X9_operand 67 1 S = some N0 → loopE N0 = some NF → F_X9_expression 67 (nI (5 + t)) N = F_X9_expression_j330 67 NF := fun N0 NF e1 e2 => by
    have dp : F_X9_deeper 67 (stI (stI (stI N 67 30 (nI (5 + t))) 67 31 0) 67 32 0) = some S := by
      unfold F_X9_deeper
      rw [Lf_67 L.st.st.st, ob_t, mI_se, if_neg (by decide), ob_t, Ls_67 L.st.st.st, ob_t, Lp_67_40 L.st.st.st.st, ob_t, Lf_67 L.st.st.st.st, ob_t, mI_se, show (0 : Int32) + 1 = nI 1 from rfl, Lw_82 L.st.st.st.st (by omega), ob_t, ← hS]; rfl
    have LS : Lay S := by rw [← hS]; exact L.st.st.st.st.st
    unfold loopE at e2
    unfold F_X9_expression
    rw [Lc_67 L, gd, ob_t, if_neg (by decide), Ls_67 L, ob_t, Ls_67 L.st, ob_t, Ls_67 L.st.st, ob_t, Lc_67 L.st.st.st, dp, ob_t, Lc_67 LS, e1, ob_t, e2, ob_t]
  obtain ⟨g1, g2⟩ := R_sim (b := b) (B := B) (n := n) ht 37 0 0 (by omega) (by omega) (by omega) ([], q, 0, 0) S [] [] (fun _ => 0) rfl r0 b0 (fun x r e => by cases e) (fun _ => rfl)
  constructor
  · intro z
    obtain ⟨c, N0, N1, P, o', te', y1, y2, y3, y4, y5, y6, y7, y8, y9, y10, y11⟩ := g1 z
    rw [List.append_nil] at y4 y5
    have hc : (pjP B n t 37 0 0 ([], q, 0, 0)).1 = c := y1
    rw [hc]
    have hn1 := y4.nq
    have bd := y5
    unfold BD at bd
    have j0 := y10.1 0 (by omega) (by omega) (by omega)
    have j1 := y10.1 1 (by omega) (by omega) (by omega)
    have j3 := y10.1 3 (by omega) (by omega) (by omega)
    have j4 := y10.1 4 (by omega) (by omega) (by omega)
    have n14 : 14 ∉ P := fun h => by have := (y6 14 h).2.2.1; omega
    have st : loopE N1 = some N1 := st_stop (by omega) y4 (by omega) ⟨fun e => by rw [e] at j0; exact absurd j0 (by decide), fun e => by rw [e] at j1; exact absurd j1 (by decide), fun e => by rw [e] at j3; exact absurd j3 (by decide), fun e => by rw [e] at j3; exact absurd j3 (by decide), fun e => by rw [e] at j4; exact absurd j4 (by decide), fun e => by rw [e] at j4; exact absurd j4 (by decide)⟩ (fun e => y10.2 (by omega) (by rcases e with e | e <;> rw [e] <;> decide)) (fun _ => n14)
    have le : lenM (c.map toM) = lenM o' + P.length := by
      have := congrArg lenM y7
      rw [List.nil_append, lenM_a, y6.l] at this; exact this.symm
    have y4' : RC B n t b N1 (pjP B n t 37 0 0 ([], q, 0, 0)).2.1 o' (P ++ []) (0 + 1) te' := by rw [List.append_nil]; exact y4
    obtain ⟨N2, e2, r2, f2⟩ := RC.drops (s := 0) (by omega) P o' N1 y4' (y6.m (by omega)) (fun x r e => by cases e) (by omega) (by show P.length + 0 ≤ 950; omega)
    rw [show o' ++ opL P = c.map toM from y7] at r2
    have L2 := r2.lay
    have top : b + lenM (c.map toM) < 1400 := by omega
    have f3 : Fr (fun k j => (k = 67 ∧ j = 29) ∨ (k = 80 ∧ j = b + lenM (c.map toM))) N2 (stI (stI N2 80 (b + lenM (c.map toM)) 0) 67 29 (nI (b + lenM (c.map toM) + 1))) := (Fr.rfl'.st (Or.inr ⟨rfl, rfl⟩)).st (Or.inl ⟨rfl, rfl⟩)
    refine ⟨stI (stI N2 80 (b + lenM (c.map toM)) 0) 67 29 (nI (b + lenM (c.map toM) + 1)), ?_, r2.1.fr f3 rfl (fun j hj => by omega) (fun i => by omega), ⟨(f3.at (by omega)).trans r2.2.1, (f3.at (by omega)).trans r2.2.2.2.2.2.2⟩, lyQ_M _ b (lyQ_g _ b (fun i _ _ => f3.at (by omega)) r2.2.2.1.2) ?_, mI_se, by omega, top, fE ((y11.trans f2).trans (f3.mono fun k j y => by unfold XT; omega))⟩
    · rw [ex N0 N1 y2 (y3.trans st)]
      unfold F_X9_expression_j330 F_X9_expression_j350
      rw [Lc_67 y4.lay, y4.good, ob_t, if_neg (by decide), Lf_67 y4.lay, ob_t, y4.2.2.2.2.1.1, if_pos (show nI (0 + 1) ≤ (1 : Int32) by decide), Lc_67 y4.lay, show (0 : Int32) = nI 0 from rfl, e2, ob_t, Lc_67 L2, M_puts L2 r2.2.2.1.1 top, ob_t]
    · rw [mI_sn (by omega), mI_se]
  · intro z
    obtain ⟨N0, NF, y1, y2, y3, y4⟩ := g2 z
    obtain ⟨N', e, x1, x2, x3, x4, x5, x6⟩ := y3.fin
    exact ⟨N', by rw [ex N0 NF y1 y2, e], x1, x2, x3, x4, x5, fE (y4.trans x6)⟩
end
