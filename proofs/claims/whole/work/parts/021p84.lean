/-! ===== the reference: acts ===== -/
section
variable {M M' : Mem} {p m : Nat} {g : Pg} {s s' : Sg} {L L' : List Sg} {E E' : List Se} {I I' : Option (Sg × List Sg × List Se)} {R R' : Nat → Int32} {T T' : List Nat} {f f' : Int32}
theorem loop_cp {step : Int32 × Mem → Option ((Int32 × Mem) ⊕ Mem)} (c d : Nat) (b e : Nat → Nat) (n : Nat) (hcd : c ≠ d) (he : ∀ i j, i < n → j < n → e i = e j → i = j)
    (h : ∀ i M', i < n → Wr [d] M M' → step (nI i, M') = some (.inl (nI (i + 1), stI M' d (e i) (mI M' c (b i))))) (hz : ∀ M', Wr [d] M M' → step (nI n, M') = some (.inr M')) :
    ∃ M', loop step (nI 0, M) = some M' ∧ Wr [d] M M' ∧ (∀ i, i < n → mI M' d (e i) = mI M c (b i)) ∧ ∀ j, (∀ i, i < n → j ≠ e i) → mI M' d j = mI M d j := by
  obtain ⟨M1, e1, w1, h1, h2⟩ := loop_mm (step := step) (fun i M' => (nI i, M')) (fun M' => M') n (fun k M' => Wr [d] M M' ∧ (∀ i, i < k → mI M' d (e i) = mI M c (b i)) ∧ ∀ j, (∀ i, i < k → j ≠ e i) → mI M' d j = mI M d j) (M := M) ⟨Wr.rfl', fun i hi => by omega, fun _ _ => rfl⟩ (by
    rintro k M' hk ⟨w', h1, h2⟩
    refine ⟨_, h k M' hk w', w'.st (by simp), fun i hi => ?_, fun j hj => ?_⟩
    · rw [mI_steq]
      by_cases z : i = k
      · subst z; rw [upg_eq, w'.2.2.2.2 c (by simp; exact hcd)]
      · rw [upg_ne (fun y => z (he i k (by omega) hk y))]; exact h1 i (by omega)
    · rw [mI_steq, upg_ne (hj k (by omega))]; exact h2 j fun i hi => hj i (by omega)) (by
    rintro M' ⟨w', -, -⟩
    exact hz M' w')
  exact ⟨M1, e1, w1, h1, h2⟩
theorem RwV.cp {F F' : Nat → Int32} {b b' : Nat} (h : RwV F b g s) (hg : GdP g) (e : ∀ i, i < 43 → F' (b' + i) = F (b + i)) : RwV F' b' g s := by
  have g1 := hg.1
  have g2 := hg.2.1
  obtain ⟨r1, r2, r3, r4, r5⟩ := h
  refine ⟨by rw [← r1]; exact e 0 (by omega), by rw [← r2]; exact e 1 (by omega), by rw [← r3]; exact e 2 (by omega), fun k hk => ?_, fun k hk => ?_⟩
  · rw [← (r4 k hk).1, ← (r4 k hk).2.1, ← (r4 k hk).2.2]
    refine ⟨?_, ?_, ?_⟩
    · rw [Nat.add_assoc, Nat.add_assoc]; exact e (3 + k) (by omega)
    · rw [Nat.add_assoc, Nat.add_assoc]; exact e (11 + k) (by omega)
    · rw [Nat.add_assoc, Nat.add_assoc]; exact e (19 + k) (by omega)
  · rw [← (r5 k hk).1, ← (r5 k hk).2]
    refine ⟨?_, ?_⟩
    · rw [Nat.add_assoc, Nat.add_assoc]; exact e (27 + k) (by omega)
    · rw [Nat.add_assoc, Nat.add_assoc]; exact e (35 + k) (by omega)
/-- what the reference leaves of the class -/
def FM (M M' : Mem) : Prop := M'.1 = M.1 ∧ mP M' = mP M ∧ mS M' = mS M ∧ (∀ k, k ≠ 67 → mL M' k = mL M k) ∧ ∀ k, (k < 67 ∨ 97 ≤ k) → mI M' k = mI M k
theorem FM.rfl' : FM M M := ⟨rfl, rfl, rfl, fun _ _ => rfl, fun _ _ => rfl⟩
theorem FM.trans {M'' : Mem} (h : FM M M') (h' : FM M' M'') : FM M M'' := ⟨h'.1.trans h.1, h'.2.1.trans h.2.1, h'.2.2.1.trans h.2.2.1, fun k hk => (h'.2.2.2.1 k hk).trans (h.2.2.2.1 k hk), fun k hk => (h'.2.2.2.2 k hk).trans (h.2.2.2.2 k hk)⟩
theorem Wr.fm {W : List Nat} (w : Wr W M M') (h : ∀ k ∈ W, 67 ≤ k ∧ k < 97) : FM M M' := ⟨w.1, w.2.2.1, w.2.2.2.1, fun k _ => by rw [w.2.1], fun k hk => w.2.2.2.2 k fun z => by have := h k z; omega⟩
theorem FM.st (h : FM M M') {a j : Nat} {v : Int32} (ha : 67 ≤ a ∧ a < 97) : FM M (stI M' a j v) := ⟨h.1, h.2.1, h.2.2.1, h.2.2.2.1, fun k hk => by rw [mI_stne (by omega)]; exact h.2.2.2.2 k hk⟩
theorem WB.fm {b : Nat} (w : WB b M M') : FM M M' := ⟨w.1, w.2.2.1, w.2.2.2.1, fun k _ => by rw [w.2.1], fun k hk => w.2.2.2.2.1 k (by simp; omega)⟩
theorem CI.fm (h : CI M p g s L E I R T f) (w : FM M M') : CI M' p g s L E I R T f := h.kp (X := fun k _ => 67 ≤ k ∧ k < 97) ⟨by rw [w.1]; exact Nat.le_refl _, fun k _ => by rw [w.1], fun k j _ hk => by rw [w.2.2.2.2 k (by omega)], fun k j _ _ => by rw [w.2.1]⟩ (fun k j z => Or.inr (by omega))
def ZI (M : Mem) (g : Pg) (s : Sg) (L : List Sg) (E : List Se) (I : Option (Sg × List Sg × List Se)) (R : Nat → Int32) (T : List Nat) (f : Int32) : Prop := MI M g s L E I R T f ∧ mI M 67 0 = 0
theorem ZI.z (h : ZI M g s L E I R T f) : MZu M g s := ⟨h.1.1, h.2⟩
theorem ZI.lay (h : ZI M g s L E I R T f) : Lay M := h.1.1.lay
theorem MI.zero (h : MI M g s L E I R T f) : pI M 9 67 0 0 = some (stI M 67 0 0) ∧ ZI (stI M 67 0 0) g s L E I R T f ∧ FM M (stI M 67 0 0) := by
  obtain ⟨e, z, w⟩ := h.1.zero
  exact ⟨e, ⟨h.q w z.1.2, z.2⟩, FM.rfl'.st (by omega)⟩
/-- cells of the reference that stay -/
theorem ZI.wr {W : List Nat} (h : ZI M g s L E I R T f) (w : Wr W M M') (hW : ∀ k ∈ W, k = 85 ∨ k = 86) : ZI M' g s L E I R T f := by
  have q := w.q (fun k hk => by rcases hW k hk with e | e <;> subst e <;> decide)
  have e : mI M' 67 = mI M 67 := w.2.2.2.2 67 fun z => by have := hW 67 z; omega
  exact ⟨h.1.q q (by rw [e]; exact h.1.1.2), by rw [e]; exact h.2⟩
theorem mul43 {a b : Nat} : (43 : Int32) * nI a + nI b = nI (43 * a + b) := by rw [show (43 : Int32) * nI a = nI (43 * a) from nI_mul (a := 43), nI_add]
/-- the parts of MI by cells: all but those named -/
theorem MI.mk' (hq : MQu M' g s') (ha : AcM M' (mI M' 67 43) 84 g L') (hs : SeM M' (mI M' 67 51) 91 E') (hi : ImM M' g I') (hr : ∀ i, i < 3 → mI M' 74 i = R' i) (ht : mI M' 67 12 = nI T'.length ∧ ∀ i b, T'[i]? = some b → mI M' 73 i = nI b) (hf : mI M' 67 14 = f') : MI M' g s' L' E' I' R' T' f' := ⟨hq, ha, hs, hi, hr, ht, hf⟩
theorem MQu.fr (h : MQu M g s) (hL : Lay M') (e : ∀ k, 68 ≤ k → k < 73 → mI M' k = mI M k) (e67 : ∀ j, (j < 6 ∧ 0 < j) ∨ j = 46 → mI M' 67 j = mI M 67 j) (hr : RwV (mI M' 83) 0 g s') (hd : GdS 999 g s') : MQu M' g s' := by
  refine ⟨⟨hL, ?_, rfl, by omega, hr, hd⟩, by rw [e67 46 (by omega)]; exact h.2⟩
  unfold MPl
  rw [e67 1 (by omega), e67 2 (by omega), e67 3 (by omega), e67 4 (by omega), e67 5 (by omega), e 68 (by omega) (by omega), e 69 (by omega) (by omega), e 70 (by omega) (by omega), e 71 (by omega) (by omega), e 72 (by omega) (by omega)]
  exact h.1.2.1
theorem AcM.fr {x : Int32} {c : Nat} (h : AcM M x c g L) (e : mI M' c = mI M c) : AcM M' x c g L := by unfold AcM; rw [e]; exact h
theorem SeM.fr {x : Int32} {c : Nat} (h : SeM M x c E) (e : mI M' c = mI M c) : SeM M' x c E := by unfold SeM; rw [e]; exact h
theorem ImM.fr (h : ImM M g I) (e67 : ∀ j, j = 56 ∨ j = 57 ∨ j = 58 → mI M' 67 j = mI M 67 j) (e : mI M' 94 = mI M 94 ∧ mI M' 95 = mI M 95 ∧ mI M' 96 = mI M 96) : ImM M' g I := by
  cases I with
  | none => show mI M' 67 56 = 0; rw [e67 56 (by omega)]; exact h
  | some x =>
    obtain ⟨s', L', E'⟩ := x
    show mI M' 67 56 = 1 ∧ RwV (mI M' 94) 0 g s' ∧ AcM M' (mI M' 67 57) 95 g L' ∧ SeM M' (mI M' 67 58) 96 E'
    unfold AcM SeM
    rw [e67 56 (by omega), e67 57 (by omega), e67 58 (by omega), e.1, e.2.1, e.2.2]
    exact h
/-- what is now changes, and nothing else -/
theorem ZI.now (h : ZI M g s L E I R T f) (w : WB 0 M M') (hr : RwV (mI M' 83) 0 g s') (hd : GdS 999 g s') : ZI M' g s' L E I R T f ∧ FM M M' := by
  have e : ∀ k, k ∉ [83, 85, 86] → mI M' k = mI M k := w.2.2.2.2.1
  refine ⟨⟨⟨h.1.1.fr (Lay.wb h.lay w) (fun k h1 h2 => e k (by simp; omega)) (fun j _ => by rw [e 67 (by decide)]) hr hd, ?_, ?_, h.1.2.2.2.1.fr (fun j _ => by rw [e 67 (by decide)]) ⟨e 94 (by decide), e 95 (by decide), e 96 (by decide)⟩, ?_, ?_, ?_⟩, by rw [e 67 (by decide)]; exact h.2⟩, w.fm⟩
  · rw [e 67 (by decide)]; exact h.1.2.1.fr (e 84 (by decide))
  · rw [e 67 (by decide)]; exact h.1.2.2.1.fr (e 91 (by decide))
  · rw [e 74 (by decide)]; exact h.1.2.2.2.2.1
  · rw [e 67 (by decide), e 73 (by decide)]; exact h.1.2.2.2.2.2.1
  · rw [e 67 (by decide)]; exact h.1.2.2.2.2.2.2
/-- acts are kept: the row behind -/
theorem M_keepj (h : ZI M g s L E I R T f) (hlen : L.length < 40) : ∃ M1, loop (fun z : Int32 × Mem => F_X9_keeps_s52 67 z.1 z.2) ((0 : Int32), M) = some M1 ∧ Lay M1 ∧ mI M1 67 43 = nI L.length ∧ ZI (stI M1 67 43 (nI L.length + 1)) g s (L ++ [s]) E I R T f ∧ FM M (stI M1 67 43 (nI L.length + 1)) := by
  have a3 := h.1.2.1.1
  obtain ⟨M1, e1, w1, h1, h2⟩ := loop_cp (M := M) (step := fun z : Int32 × Mem => F_X9_keeps_s52 67 z.1 z.2) 83 84 (fun i => i) (fun i => 43 * L.length + i) 43 (by omega) (fun i j _ _ z => by omega) (by
    intro i M' hi w'
    have hL := h.lay.wr w'
    unfold F_X9_keeps_s52
    dsimp only
    rw [if_neg (show ¬ (43 : Int32) ≤ nI i from nI_ge (b := 43) hi (by omega)), Lp_67_42 hL, ob_t, Lf_67 hL, ob_t, Lp_67_41 hL, ob_t, La_83 hL (by omega), ob_t, wr_mI w' (k := 67) (by decide), a3, mul43, Lw_84 hL (by omega), ob_t, nI_1]) (by
    intro M' w'
    unfold F_X9_keeps_s52
    dsimp only
    rw [if_pos (show (43 : Int32) ≤ nI 43 from nI_le (a := 43) (Nat.le_refl _) (by omega))])
  have e67 : mI M1 67 = mI M 67 := wr_mI w1 (by decide)
  have hL1 := h.lay.wr w1
  have sm : ∀ k, k ≠ 67 → k ≠ 84 → mI (stI M1 67 43 (nI L.length + 1)) k = mI M k := fun k a b => by rw [mI_stne a, wr_mI w1 (by simp; exact b)]
  have s67 : ∀ j, j ≠ 43 → mI (stI M1 67 43 (nI L.length + 1)) 67 j = mI M 67 j := fun j hj => by rw [mI_steq, upg_ne hj, e67]
  refine ⟨M1, e1, hL1, by rw [e67]; exact a3, ⟨⟨h.1.1.fr hL1 (fun k a b => sm k (by omega) (by omega)) (fun j hj => s67 j (by omega)) (by rw [sm 83 (by omega) (by omega)]; exact h.1.1.1.rw) h.1.1.1.gd, ⟨?_, ?_, fun i t ht => ?_⟩, ?_, h.1.2.2.2.1.fr (fun j hj => s67 j (by omega)) ⟨sm 94 (by omega) (by omega), sm 95 (by omega) (by omega), sm 96 (by omega) (by omega)⟩, ?_, ?_, ?_⟩, by rw [s67 0 (by omega)]; exact h.2⟩, (w1.fm (by simp)).st (by omega)⟩
  · rw [mI_steq, upg_eq, List.length_append]; exact nI_1 _
  · rw [List.length_append]; simp; omega
  · rw [mI_stne (by omega)]
    by_cases c : i < L.length
    · rw [List.getElem?_append_left c] at ht
      refine (h.1.2.1.2.2 i t ht).cp h.1.1.1.gp fun k hk => h2 _ fun j hj => by omega
    · rw [List.getElem?_append_right (by omega)] at ht
      have hi : i - L.length < [s].length := (List.getElem?_eq_some_iff.mp ht).1
      simp at hi
      have e : i = L.length := by omega
      subst e
      simp at ht
      subst ht
      refine h.1.1.1.rw.cp h.1.1.1.gp fun k hk => ?_
      rw [Nat.zero_add]; exact h1 k hk
  · rw [s67 51 (by omega)]; exact h.1.2.2.1.fr (sm 91 (by omega) (by omega))
  · rw [sm 74 (by omega) (by omega)]; exact h.1.2.2.2.2.1
  · rw [s67 12 (by omega), sm 73 (by omega) (by omega)]; exact h.1.2.2.2.2.2.1
  · rw [s67 14 (by omega)]; exact h.1.2.2.2.2.2.2
theorem M_keep (h : ZI M g s L E I R T f) : ∃ M', F_X9_keeps 67 M = some M' ∧ ZI M' g s (keptL L s) E I R T f ∧ FM M M' := by
  have a3 := h.1.2.1.1
  have a4 := h.1.2.1.2.1
  unfold F_X9_keeps keptL
  rw [Lf_67 h.lay, ob_t, a3]
  by_cases c : L.length = 40
  · rw [if_pos (show nI L.length = (40 : Int32) by rw [c]; rfl), if_pos c]
    obtain ⟨M1, e1, w1, h1, h1'⟩ := loop_mm (step := fun z : Int32 × Mem => F_X9_keeps_s12 67 z.1 z.2) (fun i M' => (nI (43 + i), M')) (fun M' => M') 1677 (fun k M' => Wr [84] M M' ∧ (∀ i, i < k → mI M' 84 i = mI M 84 (43 + i)) ∧ ∀ j, k ≤ j → mI M' 84 j = mI M 84 j) (M := M) ⟨Wr.rfl', fun i hi => by omega, fun _ _ => rfl⟩ (by
      rintro k M' hk ⟨w', h1, h2⟩
      have hL := h.lay.wr w'
      refine ⟨stI M' 84 k (mI M 84 (43 + k)), ?_, w'.st (by simp), fun i hi => ?_, fun j hj => ?_⟩
      · unfold F_X9_keeps_s12
        dsimp only
        rw [if_neg (show ¬ (1720 : Int32) ≤ nI (43 + k) from nI_ge (b := 1720) (by omega) (by omega)), Lp_67_42 hL, ob_t, ob_t, La_84 hL (by omega), ob_t, show nI (43 + k) - (43 : Int32) = nI (43 + k - 43) from nI_sub (b := 43) (by omega), Nat.add_sub_cancel_left, Lw_84 hL (by omega), ob_t, nI_1, h2 _ (by omega)]
        rfl
      · rw [mI_steq]
        by_cases z : i = k
        · subst z; rw [upg_eq]
        · rw [upg_ne z]; exact h1 i (by omega)
      · rw [mI_steq, upg_ne (by omega)]; exact h2 j (by omega)) (by
      rintro M' ⟨w', -, -⟩
      unfold F_X9_keeps_s12
      dsimp only
      rw [if_pos (show (1720 : Int32) ≤ nI (43 + 1677) from nI_le (a := 1720) (by omega) (by omega))])
    have e1' : loop (fun z : Int32 × Mem => F_X9_keeps_s12 67 z.1 z.2) ((43 : Int32), M) = some M1 := e1
    have e67 : mI M1 67 = mI M 67 := wr_mI w1 (by decide)
    have hL1 := h.lay.wr w1
    have r2 : nI L.length - 1 = nI 39 := by rw [c]; exact nI_pred 39
    rw [e1', ob_t, Lf_67 hL1, ob_t, e67, a3, Ls_67 hL1, ob_t, r2]
    have sm : ∀ k, k ≠ 67 → k ≠ 84 → mI (stI M1 67 43 (nI 39)) k = mI M k := fun k a b => by rw [mI_stne a, wr_mI w1 (by simp; exact b)]
    have s67 : ∀ j, j ≠ 43 → mI (stI M1 67 43 (nI 39)) 67 j = mI M 67 j := fun j hj => by rw [mI_steq, upg_ne hj, e67]
    have hz : ZI (stI M1 67 43 (nI 39)) g s (L.drop 1) E I R T f := by
      refine ⟨⟨h.1.1.fr hL1 (fun k a b => sm k (by omega) (by omega)) (fun j hj => s67 j (by omega)) (by rw [sm 83 (by omega) (by omega)]; exact h.1.1.1.rw) h.1.1.1.gd, ⟨?_, ?_, fun i t ht => ?_⟩, ?_, h.1.2.2.2.1.fr (fun j hj => s67 j (by omega)) ⟨sm 94 (by omega) (by omega), sm 95 (by omega) (by omega), sm 96 (by omega) (by omega)⟩, ?_, ?_, ?_⟩, by rw [s67 0 (by omega)]; exact h.2⟩
      · rw [mI_steq, upg_eq, List.length_drop, c]
      · rw [List.length_drop]; omega
      · rw [mI_stne (by omega)]
        have hi : i < (L.drop 1).length := (List.getElem?_eq_some_iff.mp ht).1
        rw [List.length_drop, c] at hi
        rw [List.getElem?_drop] at ht
        refine (h.1.2.1.2.2 (1 + i) t ht).cp h.1.1.1.gp fun k hk => ?_
        rw [h1 _ (by omega)]
        congr 1
        omega
      · rw [s67 51 (by omega)]; exact h.1.2.2.1.fr (sm 91 (by omega) (by omega))
      · rw [sm 74 (by omega) (by omega)]; exact h.1.2.2.2.2.1
      · rw [s67 12 (by omega), sm 73 (by omega) (by omega)]; exact h.1.2.2.2.2.2.1
      · rw [s67 14 (by omega)]; exact h.1.2.2.2.2.2.2
    obtain ⟨M2, e2, l2, q2, z2, w2⟩ := M_keepj hz (by rw [List.length_drop]; omega)
    rw [List.length_drop, c] at q2 z2 w2
    rw [e2, ob_t, Lf_67 l2, ob_t, q2, Ls_67 l2, ob_t]
    exact ⟨_, rfl, z2, ((w1.fm (by simp)).st (by omega)).trans w2⟩
  · rw [if_neg (show ¬ nI L.length = (40 : Int32) from fun z => c ((nI_eq (a := L.length) (b := 40) (by omega) (by omega)).mp z)), if_neg c]
    obtain ⟨M2, e2, l2, q2, z2, w2⟩ := M_keepj h (by omega)
    rw [e2, ob_t, Lf_67 l2, ob_t, q2, Ls_67 l2, ob_t]
    exact ⟨_, rfl, z2, w2⟩
theorem M_ref (h : ZI M g s L E I R T f) {k : Nat} (hk : k < 3) : ∃ M', F_X9_refuses 67 (nI k) M = some (-1, M') ∧ ZI M' g s L E I (upg R k (R k + 1)) T f ∧ FM M M' := by
  have e := h.1.2.2.2.2.1 k hk
  unfold F_X9_refuses
  rw [Lp_67_15 h.lay, ob_t, La_74 h.lay (by omega), ob_t, Lw_74 h.lay (by omega), ob_t, e]
  have sm : ∀ j, j ≠ 74 → mI (stI M 74 k (R k + 1)) j = mI M j := fun j hj => mI_stne hj
  refine ⟨_, rfl, ⟨⟨h.1.1.fr h.lay (fun j a b => sm j (by omega)) (fun j _ => by rw [sm 67 (by omega)]) (by rw [sm 83 (by omega)]; exact h.1.1.1.rw) h.1.1.1.gd, ?_, ?_, h.1.2.2.2.1.fr (fun j _ => by rw [sm 67 (by omega)]) ⟨sm 94 (by omega), sm 95 (by omega), sm 96 (by omega)⟩, fun i hi => ?_, ?_, ?_⟩, by rw [sm 67 (by omega)]; exact h.2⟩, FM.rfl'.st (by omega)⟩
  · rw [sm 67 (by omega)]; exact h.1.2.1.fr (sm 84 (by omega))
  · rw [sm 67 (by omega)]; exact h.1.2.2.1.fr (sm 91 (by omega))
  · rw [mI_steq]
    by_cases z : i = k
    · subst z; rw [upg_eq, upg_eq]
    · rw [upg_ne z, upg_ne z]; exact h.1.2.2.2.2.1 i hi
  · rw [sm 67 (by omega), sm 73 (by omega)]; exact h.1.2.2.2.2.2.1
  · rw [sm 67 (by omega)]; exact h.1.2.2.2.2.2.2
/-- the class refuses -/
theorem C_ref (h : CI M p g s L E I R T f) {k : Nat} (hk : k < 3) : aI M 100 57 (nI k) = some (R k) ∧ sI M 100 57 (nI k) (R k + 1) = some (stI M 57 k (R k + 1)) ∧ CI (stI M 57 k (R k + 1)) p g s L E I (upg R k (R k + 1)) T f ∧ (∀ j, 67 ≤ j → j < 98 → mI (stI M 57 k (R k + 1)) j = mI M j) := by
  have w : Wr [57] M (stI M 57 k (R k + 1)) := Wr.rfl'.st (by simp)
  have hD : ∀ k ∈ [57], k < 98 := by decide
  refine ⟨by rw [La_57 h.1 hk, h.2.2.2.2.2.2.2.2.2.2.2.2.1 k hk], Lw_57 h.1 hk, ?_, fun j a b => mI_stne (by omega)⟩
  refine h.re w.kp hD (by decide) (h.s_kp w.kp (fun k k1 k2 => by simp; omega)) (h.L_kp w.kp hD (by decide)) (h.E_kp w.kp (by decide)) (h.I_kp w.kp hD (by decide) (fun k k1 k2 => by simp; omega)) (fun i hi => ?_) (h.T_kp w.kp (by decide)) (h.f_kp w.kp (by decide))
  rw [mI_steq]
  by_cases z : i = k
  · subst z; rw [upg_eq, upg_eq]
  · rw [upg_ne z, upg_ne z]; exact h.2.2.2.2.2.2.2.2.2.2.2.2.1 i hi
end
