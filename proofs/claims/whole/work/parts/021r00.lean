/-! ===== a text is read: the class, to its end ===== -/
section
variable {M M' M1 M2 N N' : Mem} {B : Nat → Nat} {n q p t : Nat} {X Y : Nat → Nat → Prop} {G : Gt}
theorem C_read (hp : p = 4 ∨ p = 14) : ∀ (m i : Nat) (G : Gt) (q : Nat) (M : Mem), i + m = 700 → LnC B n p M (.inl (G, q)) → M.1.length + 2 * remG G ≤ CLM → mS M + 701 * remG G ≤ SLM → ∃ M', loop (fun z : Int32 × Mem => F_X3_read_s42 1 p z.1 z.2) (nI i, M) = some M' ∧ LnC B n p M' (rdL B n m G q) ∧ Kp (XL p) (YL p) M M' ∧ GrC M M' (remG G) (remR (rdL B n m G q)) := by
  intro m
  induction m with
  | zero =>
    intro i G q M hi c r1 r2
    refine ⟨M, loop_end ?_, c, Kp.refl, Nat.le_refl _, Nat.le_refl _⟩
    dsimp only
    unfold F_X3_read_s42
    rw [if_pos (show (700 : Int32) ≤ nI i from nI_le (a := 700) (by omega) (by omega))]
  | succ m ih =>
    intro i G q M hi c r1 r2
    have L := c.1.1.1.1
    have ni : ¬ (700 : Int32) ≤ nI i := nI_ge (b := 700) (by omega) (by omega)
    rw [rdL.eq_2]
    by_cases c0 : cdT B n q = 0
    · rw [if_pos c0]
      refine ⟨M, loop_end ?_, c, Kp.refl, Nat.le_refl _, Nat.le_refl _⟩
      dsimp only
      unfold F_X3_read_s42
      rw [if_neg ni, c.1.1.kind, ob_t, if_pos (c.1.1.k0.mpr c0)]
    · rw [if_neg c0]
      obtain ⟨M1, e1, l1, k1, g1⟩ := C_line hp c r1 r2
      obtain ⟨M2, e2, l2, w2, rr⟩ := C_sign l1 hp
      rw [← lnE_s] at l2 rr
      have k2 : Kp (XL p) (YL p) M M2 := k1.trans (w2.kp fun k j y => by unfold XN at y; unfold XL; omega)
      have g2 : GrC M M2 (remG G) (remR (lnE B n G q)) := g1.trans (GrC.fr w2 rr)
      have turn : loop (fun z : Int32 × Mem => F_X3_read_s42 1 p z.1 z.2) (nI i, M) = loop (fun z : Int32 × Mem => F_X3_read_s42 1 p z.1 z.2) (nI (i + 1), M2) := by
        refine loop_turn ?_
        dsimp only
        unfold F_X3_read_s42
        have L1 : Lay M1 := by
          cases h : lnL B n G q with
          | inl r => rw [h] at l1; exact l1.1.1.1.1
          | inr f => rw [h] at l1; exact l1.1
        rw [if_neg ni, c.1.1.kind, ob_t, if_neg (fun y => c0 (c.1.1.k0.mp y)), Lf_1 L, ob_t, c.1.2, if_pos rfl, Lc_1 L, e1, ob_t, Lc_1 L1, e2, ob_t, nI_1]
      cases hl : lnE B n G q with
      | inr f =>
        rw [hl] at l2 g2
        refine ⟨M2, ?_, l2, k2, g2⟩
        rw [turn]
        refine loop_end ?_
        dsimp only
        unfold F_X3_read_s42
        have L2 : Lay M2 := l2.1
        rw [Lf_1 L2, ob_t, Lf_1 L2, ob_t, l2.2.1, if_neg (neL0 (by have := l2.2.2.2.1; omega) (by have := l2.2.2.2.1; omega))]
        split
        · rfl
        · split <;> rfl
      | inl x =>
        obtain ⟨G', q'⟩ := x
        rw [hl] at l2 g2
        have g2' : GrC M M2 (remG G) (remG G') := g2
        unfold GrC at g2'
        obtain ⟨M3, e3, l3, k3, g3⟩ := ih (i + 1) G' q' M2 (by omega) l2 (by omega) (by omega)
        exact ⟨M3, by rw [turn, e3], l3, k2.trans k3, GrC.trans g2 g3⟩
def G0t : Gt := (0, 0, 0, fun _ => 0, fun _ => 0, fun _ => 0, fun _ => 0, fun _ => 0, fun _ => 0, fun _ => 0, none, none)
def XK (p k j : Nat) : Prop := (k = 1 ∧ j = j) ∨ k = 3 ∨ (p ≤ k ∧ k ≤ p + 7)
def fkR : RlT → Nat
  | .inl _ => 0
  | .inr f => f.1
theorem F_read {l : Nat} (hp : p = 4 ∨ p = 14) (L : Lay M) (hn : n ≤ l) (hl : l ≤ 700) (h1 : mI M 1 1 = nI l) (hB : ∀ i, i < n → B i < 256) (h2 : ∀ i, i < n → mI M 2 i = nby (nI (B i))) (r1 : M.1.length + 4 ≤ CLM) (r2 : mS M + 1402 ≤ SLM) : ∃ M', F_X3_read 1 (nI n) p M = some (nI (fkR (rdL B n 700 G0t 0)), M') ∧ LnC B n p M' (rdL B n 700 G0t 0) ∧ Kp (XK p) (YL p) M M' ∧ mI M' 1 1 = 0 ∧ M'.1.length ≤ M.1.length + 4 ∧ mS M' ≤ mS M + 1402 := by
  have hlen := L.len
  have mn : mnI (nI n) (nI l) = nI n := by unfold mnI; rw [if_neg (nI_nlt hn (by omega))]
  generalize hA : stI (stI (stI (stI (stI M 1 2 (nI n)) 1 1 0) 1 3 0) 1 4 (-1)) 1 7 0 = A
  have fA : Fr (fun k j => k = 1 ∧ (j = 2 ∨ j = 1 ∨ j = 3 ∨ j = 4 ∨ j = 7)) M A := by
    rw [← hA]
    exact ((((Fr.rfl'.st ⟨rfl, by omega⟩).st ⟨rfl, by omega⟩).st ⟨rfl, by omega⟩).st ⟨rfl, by omega⟩).st ⟨rfl, by omega⟩
  have LA := L.fr fA
  generalize hC : stP (stP (stI (stI (stI A p 0 0) p 1 0) p 2 0) p 10 none) p 11 none = C
  have eC : F_X2_clear p A = some C := by
    have pA : A.1[p]? = some (2, 0) := (LA.PlO hp).1
    unfold F_X2_clear
    rw [P_s LA hp, ob_t, P_s LA.st hp, ob_t, P_s LA.st.st hp, ob_t, pQ_t (M := stI (stI (stI A p 0 0) p 1 0) p 2 0) pA, ob_t, pQ_t (M := stP (stI (stI (stI A p 0 0) p 1 0) p 2 0) p 10 none) pA, ob_t, ← hC]
  have C1 : C.1 = M.1 := by rw [← hC, ← fA.1]; rfl
  have CS : mS C = mS M := by rw [← hC, ← fA.2.2.1]; rfl
  have CI' : ∀ k j, ¬ (k = p ∧ j < 3) → mI C k j = mI A k j := fun k j h => by
    rw [← hC, mI_stP, mI_stP, mI_sn (by omega), mI_sn (by omega), mI_sn (by omega)]
  have CP : ∀ k j, ¬ YL p k j → mP C k j = mP M k j := fun k j h => by
    unfold YL at h
    rw [← hC, mP_stP, if_neg (by omega), mP_stP, if_neg (by omega)]
    show mP A k j = _
    rw [fA.2.1]
  have kC : Kp (XK p) (YL p) M C := ⟨by rw [C1]; exact Nat.le_refl _, fun k _ => by rw [C1], fun k j _ hx => by
    unfold XK at hx
    rw [CI' k j (by omega)]; exact fA.at (by omega), fun k j _ hy => CP k j hy⟩
  have LC : Lay C := L.kp kC (by
    intro x hx
    have : ∀ x ∈ PT0, ¬ (x.1 = 4 ∧ (x.2.1 = 10 ∨ x.2.1 = 11)) ∧ ¬ (x.1 = 14 ∧ (x.2.1 = 10 ∨ x.2.1 = 11)) := by decide
    have := this x hx
    unfold YL
    rcases hp with rfl | rfl
    · exact this.1
    · exact this.2)
  have a1 : mI C 1 2 = nI n ∧ mI C 1 1 = 0 ∧ mI C 1 3 = 0 ∧ mI C 1 7 = nI 0 := by
    refine ⟨?_, ?_, ?_, ?_⟩ <;> rw [CI' 1 _ (by omega), ← hA]
    · rw [mI_sn (by omega), mI_sn (by omega), mI_sn (by omega), mI_sn (by omega), mI_se]
    · rw [mI_sn (by omega), mI_sn (by omega), mI_sn (by omega), mI_se]
    · rw [mI_sn (by omega), mI_sn (by omega), mI_se]
    · rw [mI_se]; rfl
  have tx : TxC B n C := ⟨LC, by omega, hB, a1.1, fun i hi => by rw [CI' 2 i (by omega), fA.at (by omega)]; exact h2 i hi⟩
  obtain ⟨D, eD, tD, wD⟩ := C_advance (q := 0) tx a1.2.2.2 (Nat.zero_le _)
  have oD : ∀ k, k ≠ 1 → mI D k = mI C k := fun k hk => funext fun j => wD.at (fun y => hk y.1)
  have pz : ∀ j, j < 3 → mI D p j = 0 := fun j hj => by
    rw [oD p (by omega), ← hC, mI_stP, mI_stP]
    have : j = 0 ∨ j = 1 ∨ j = 2 := by omega
    rcases this with rfl | rfl | rfl
    · rw [mI_sn (by omega), mI_sn (by omega), mI_se]
    · rw [mI_sn (by omega), mI_se]
    · rw [mI_se]
  have pn : mP D p 10 = none ∧ mP D p 11 = none := by
    rw [wD.2.1, ← hC]
    exact ⟨by rw [mP_stP, if_neg (by omega), mP_stP, if_pos ⟨rfl, rfl⟩], by rw [mP_stP, if_pos ⟨rfl, rfl⟩]⟩
  have ln : LnC B n p D (.inl (G0t, 0)) := ⟨⟨tD, (wD.at (by unfold XA; omega)).trans a1.2.2.1⟩, ⟨pz 0 (by omega), pz 1 (by omega), pz 2 (by omega)⟩, ⟨Nat.zero_le _, Nat.zero_le _, Nat.zero_le _⟩, fun h hh => absurd hh (Nat.not_lt_zero _), fun h hh => absurd hh (Nat.not_lt_zero _), fun h hh => absurd hh (Nat.not_lt_zero _), Or.inl ⟨pn.1, rfl⟩, Or.inl ⟨pn.2, rfl⟩⟩
  have rm0 : remG G0t = 2 := rfl
  obtain ⟨E, eE, lE, kE, gE⟩ := C_read (B := B) (n := n) hp 700 0 G0t 0 D (by omega) ln (by rw [rm0, wD.1, C1]; omega) (by rw [rm0, wD.2.2.1, CS]; omega)
  have LD := tD.1.1
  have LE : Lay E := by
    cases h : rdL B n 700 G0t 0 with
    | inl r => rw [h] at lE; exact lE.1.1.1.1
    | inr f => rw [h] at lE; exact lE.1
  have fE : mI E 1 3 = nI (fkR (rdL B n 700 G0t 0)) := by
    cases h : rdL B n 700 G0t 0 with
    | inl r => rw [h] at lE; exact lE.1.2
    | inr f => rw [h] at lE; exact lE.2.1
  have kD : Kp (XK p) (YL p) M D := kC.trans (wD.kp fun k j y => by unfold XA at y; unfold XK; omega)
  have kE' : Kp (XK p) (YL p) D E := kE.mono (fun k j _ y => by unfold XL at y; unfold XK; omega) (fun _ _ y => y)
  refine ⟨E, ?_, lE, kD.trans kE', ?_, ?_, ?_⟩
  · unfold F_X3_read
    have eE' : loop (fun z : Int32 × Mem => F_X3_read_s42 1 p z.1 z.2) ((0 : Int32), D) = some E := eE
    rw [Lf_1 L, ob_t, h1, mn, Ls_1 L, ob_t, Ls_1 L.st, ob_t, Ls_1 L.st.st, ob_t, Ls_1 L.st.st.st, ob_t, Ls_1 L.st.st.st.st, ob_t, hA, P_c LA hp, eC, ob_t, Lc_1 LC, eD, ob_t, eE', ob_t, Lf_1 LE, ob_t, fE]
  · rw [kE.2.2.1 1 1 (by rw [wD.1, C1]; omega) (by unfold XL; omega), wD.at (by unfold XA; omega)]; exact a1.2.1
  · have := gE.1
    rw [rm0, wD.1, C1] at this; omega
  · have := gE.2
    rw [rm0, wD.2.2.1, CS] at this; omega
end
