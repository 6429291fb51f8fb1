/-! ===== a rule is read: the class ===== -/
section
variable {M M' M1 M2 : Mem} {B : Nat → Nat} {n t : Nat} {σ : Ps} {X : Nat → Nat → Prop} {R : Nat → Nat → Int32 → Int32 → Mem → Option Mem}
def XR (k j : Nat) : Prop := (k = 1 ∧ 3 ≤ j ∧ j ≤ 10) ∨ k = 3
def CSp (B : Nat → Nat) (n t : Nat) (M : Mem) (σ : Ps) : Prop := TkC B n σ.2.1 M ∧ mI M 1 10 = nI σ.1.length ∧ (∀ i, i < σ.1.length → mI M 3 i = σ.1.getD i 0) ∧ mI M 1 3 = nI σ.2.2.1 ∧ (σ.2.2.1 ≠ 0 → mI M 1 4 = nI σ.2.2.2) ∧ σ.2.2.1 ≤ 5 ∧ mI M 1 11 = nI t
theorem XA_R {k j : Nat} (h : XA k j) : XR k j := by unfold XA at h; unfold XR; omega
theorem TkC.fr {q : Nat} (t : TkC B n q M) (w : Fr X M M') (h : ∀ j, (j = 2 ∨ (5 ≤ j ∧ j ≤ 8)) → ¬ X 1 j) (h2 : ∀ i, ¬ X 2 i) : TkC B n q M' :=
  ⟨t.1.fr w (h 2 (by omega)) h2, t.2.1, (w.at (h 6 (by omega))).trans t.2.2.1, (w.at (h 7 (by omega))).trans t.2.2.2.1, (w.at (h 5 (by omega))).trans t.2.2.2.2.1, fun k => (w.at (h 8 (by omega))).trans (t.2.2.2.2.2 k)⟩
theorem CSp.lay (c : CSp B n t M σ) : Lay M := c.1.1.1
theorem CSp.adv (c : CSp B n t M σ) : ∃ M', F_X3_advance 1 M = some M' ∧ CSp B n t M' (advP B n σ) ∧ Fr XR M M' := by
  obtain ⟨M', e, k, w⟩ := c.1.adv
  obtain ⟨-, c2, c3, c4, c5, c6, c7⟩ := c
  have o : ∀ j, (j < 5 ∨ 8 < j) → mI M' 1 j = mI M 1 j := fun j hj => w.at (by unfold XA; omega)
  exact ⟨M', e, ⟨k, (o 10 (by omega)).trans c2, fun i hi => (w.at (by unfold XA; omega)).trans (c3 i hi), (o 3 (by omega)).trans c4, fun y => (o 4 (by omega)).trans (c5 y), c6, (o 11 (by omega)).trans c7⟩, w.mono fun _ _ => XA_R⟩
theorem CSp.fail {w : Nat} (c : CSp B n t M σ) (h1 : 1 ≤ w) (h2 : w ≤ 5) : ∃ M', F_X3_fail 1 (nI w) M = some M' ∧ CSp B n t M' (failP B n w σ) ∧ Fr XR M M' := by
  obtain ⟨c1, c2, c3, c4, c5, c6, c7⟩ := c
  unfold F_X3_fail failP
  rw [Lf_1 c1.1.1, ob_t, c4]
  by_cases k : σ.2.2.1 = 0
  · have w1 : Fr (fun k j => k = 1 ∧ (j = 3 ∨ j = 4)) M (stI (stI M 1 3 (nI w)) 1 4 (nI (plT B n σ.2.1))) := (Fr.rfl'.st ⟨rfl, Or.inl rfl⟩).st ⟨rfl, Or.inr rfl⟩
    rw [if_pos (by rw [k]; rfl), if_pos k, Ls_1 c1.1.1, ob_t, Lf_1 c1.1.1.st, ob_t, mI_st, if_neg (by omega), c1.2.2.1, Ls_1 c1.1.1.st, ob_t]
    refine ⟨_, rfl, ⟨c1.fr w1 (fun j hj => by omega) (fun i => by omega), (w1.at (by omega)).trans c2, fun i hi => (w1.at (by omega)).trans (c3 i hi), ?_, fun _ => ?_, h2, (w1.at (by omega)).trans c7⟩, w1.mono fun k j y => by unfold XR; omega⟩
    · rw [mI_st, if_neg (by omega), mI_st, if_pos ⟨rfl, rfl⟩]
    · rw [mI_st, if_pos ⟨rfl, rfl⟩]
  · rw [if_neg (neL0 k (by omega)), if_neg k]
    exact ⟨M, rfl, ⟨c1, c2, c3, c4, c5, c6, c7⟩, Fr.rfl'⟩
theorem CSp.emi {x : Int32} (c : CSp B n t M σ) (hl : σ.1.length < 700) : ∃ M', F_X3_emit 1 x M = some M' ∧ CSp B n t M' (emiP x σ) ∧ Fr XR M M' := by
  obtain ⟨c1, c2, c3, c4, c5, c6, c7⟩ := c
  have L := c1.1.1
  have al : alen M 100 3 = some (nI 700) := alen_t (L.t rfl)
  have w1 : Fr (fun k j => (k = 1 ∧ j = 10) ∨ k = 3) M (stI (stI M 3 σ.1.length x) 1 10 (nI (σ.1.length + 1))) := (Fr.rfl'.st (Or.inr rfl)).st (Or.inl ⟨rfl, rfl⟩)
  refine ⟨_, ?_, ⟨c1.fr w1 (fun j hj => by omega) (fun i => by omega), ?_, fun i hi => ?_, (w1.at (by omega)).trans c4, fun y => (w1.at (by omega)).trans (c5 y), c6, (w1.at (by omega)).trans c7⟩, w1.mono fun k j y => by unfold XR; omega⟩
  · unfold F_X3_emit
    rw [Lf_1 L, ob_t, Lp_1_9 L, ob_t, al, ob_t, c2, if_neg (nI_ge hl (by omega)), ob_t, ob_t, Lw_3 L hl, ob_t, Lf_1 L.st, ob_t, mI_st, if_neg (by omega), c2, nI_1, Ls_1 L.st, ob_t]
  · rw [mI_st, if_pos ⟨rfl, rfl⟩]
    show _ = nI (σ.1 ++ [x]).length
    rw [List.length_append, List.length_singleton]
  · have hi : i < (σ.1 ++ [x]).length := hi
    rw [List.length_append, List.length_singleton] at hi
    show mI _ 3 i = (σ.1 ++ [x]).getD i 0
    rw [mI_st, if_neg (by omega), mI_st, List.getD_eq_getElem?_getD]
    by_cases e : i = σ.1.length
    · rw [if_pos ⟨rfl, e⟩, e, List.getElem?_append_right (Nat.le_refl _), Nat.sub_self]; rfl
    · rw [if_neg (fun y => e y.2), c3 i (by omega), List.getElem?_append_left (by omega), List.getD_eq_getElem?_getD]
theorem CSp.join (c : CSp B n t M σ) {L : Nat} (hL : L ≤ 4) : F_X3_joinAt 1 (nI L) M = some (jnI L (cdT B n σ.2.1)) := by
  have k := c.1
  have ws : ∀ j, 1 ≤ j → j ≤ 15 → F_X3_isWord 1 j M = some (if cdT B n σ.2.1 = j then 1 else 0) := fun j a b => k.isW a b
  have ss : ∀ x, bk x = 4 → x < 128 → F_X3_isSign 1 (nI x) M = some (if cdT B n σ.2.1 = 20 + x then 1 else 0) := fun x a b => k.isS a b
  have s60 : F_X3_isSign 1 (60 : Int32) M = _ := ss 60 (by decide) (by omega)
  have s61 : F_X3_isSign 1 (61 : Int32) M = _ := ss 61 (by decide) (by omega)
  have s43 : F_X3_isSign 1 (43 : Int32) M = _ := ss 43 (by decide) (by omega)
  have s45 : F_X3_isSign 1 (45 : Int32) M = _ := ss 45 (by decide) (by omega)
  have s42 : F_X3_isSign 1 (42 : Int32) M = _ := ss 42 (by decide) (by omega)
  have s47 : F_X3_isSign 1 (47 : Int32) M = _ := ss 47 (by decide) (by omega)
  unfold F_X3_joinAt jnI
  simp only [Lc_1 c.lay, ws 13 (by omega) (by omega), ws 14 (by omega) (by omega), s60, s61, s43, s45, s42, s47, ob_t]
  generalize cdT B n σ.2.1 = cd
  have five : L = 0 ∨ L = 1 ∨ L = 2 ∨ L = 3 ∨ L = 4 := by omega
  rcases five with rfl | rfl | rfl | rfl | rfl
  · rw [if_pos (show nI 0 = (0 : Int32) from rfl)]
    by_cases a : cd = 13
    · simp [a]
    · simp [a]
  · rw [if_neg (show ¬ nI 1 = (0 : Int32) by decide), if_pos (show nI 1 = (1 : Int32) from rfl)]
    by_cases a : cd = 14
    · simp [a]
    · simp [a]
  · rw [if_neg (show ¬ nI 2 = (0 : Int32) by decide), if_neg (show ¬ nI 2 = (1 : Int32) by decide), if_pos (show nI 2 = (2 : Int32) from rfl)]
    by_cases a : cd = 80
    · simp [a]
    · by_cases b : cd = 81
      · simp [b]
      · simp [a, b]
  · rw [if_neg (show ¬ nI 3 = (0 : Int32) by decide), if_neg (show ¬ nI 3 = (1 : Int32) by decide), if_neg (show ¬ nI 3 = (2 : Int32) by decide), if_pos (show nI 3 = (3 : Int32) from rfl)]
    by_cases a : cd = 63
    · simp [a]
    · by_cases b : cd = 65
      · simp [b]
      · simp [a, b]
  · rw [if_neg (show ¬ nI 4 = (0 : Int32) by decide), if_neg (show ¬ nI 4 = (1 : Int32) by decide), if_neg (show ¬ nI 4 = (2 : Int32) by decide), if_neg (show ¬ nI 4 = (3 : Int32) by decide)]
    by_cases a : cd = 62
    · simp [a]
    · by_cases b : cd = 67
      · simp [b]
      · simp [a, b]
theorem CSp.fact (c : CSp B n t M σ) (ht : t ≤ 1) : F_X3_factHere 1 M = some (if fcN t (cdT B n σ.2.1) = 7 then -1 else nI (fcN t (cdT B n σ.2.1))) := by
  have ws : ∀ j, 1 ≤ j → j ≤ 15 → F_X3_isWord 1 j M = some (if cdT B n σ.2.1 = j then 1 else 0) := fun j a b => c.1.isW a b
  unfold F_X3_factHere fcN
  simp only [Lc_1 c.lay, Lf_1 c.lay, ob_t, c.2.2.2.2.2.2, ws 6 (by omega) (by omega), ws 7 (by omega) (by omega), ws 8 (by omega) (by omega), ws 9 (by omega) (by omega), ws 4 (by omega) (by omega), ws 10 (by omega) (by omega), ws 11 (by omega) (by omega)]
  generalize cdT B n σ.2.1 = cd
  by_cases a1 : cd = 6
  · simp [a1]; rfl
  by_cases a2 : cd = 7
  · simp [a2]; rfl
  by_cases a3 : cd = 8
  · simp [a3]; rfl
  by_cases a4 : cd = 9
  · simp [a4]; rfl
  by_cases a5 : cd = 4
  · simp [a5]; rfl
  by_cases a6 : cd = 10
  · simp [a6]; rfl
  have : t = 0 ∨ t = 1 := by omega
  rcases this with rfl | rfl
  · simp [a1, a2, a3, a4, a5, a6, show nI 0 = (0 : Int32) from rfl]
  · by_cases a7 : cd = 11
    · simp [a7, show nI 1 = (1 : Int32) from rfl]; rfl
    · simp [a1, a2, a3, a4, a5, a6, a7, show nI 1 = (1 : Int32) from rfl]
/-- what a call of the class does is what is told of it -/
def SmJ (B : Nat → Nat) (n t : Nat) (o : Mem → Option Mem) (p : Ps → Ps) : Prop := ∀ (σ : Ps) (M : Mem), CSp B n t M σ → σ.1.length ≤ σ.2.1 → ∃ M', o M = some M' ∧ CSp B n t M' (p σ) ∧ Fr XR M M'
theorem C_nots : ∀ m i (σ : Ps) (M : Mem), i + m = 6 → CSp B n t M σ → ∃ M', loop (fun s : Int32 × Mem => F_X3_takeNots_s2 1 s.1 s.2) (nI i, M) = some (nI (i + (ntP B n m σ).1), M') ∧ CSp B n t M' (ntP B n m σ).2 ∧ Fr XR M M' := by
  intro m
  induction m with
  | zero =>
    intro i σ M hi c
    refine ⟨M, loop_end ?_, c, Fr.rfl'⟩
    dsimp only
    unfold F_X3_takeNots_s2
    rw [if_pos (show (6 : Int32) ≤ nI i from nI_le (a := 6) (by omega) (by omega))]; rfl
  | succ m ih =>
    intro i σ M hi c
    rw [ntP.eq_2]
    by_cases h : cdT B n σ.2.1 = 12
    · rw [if_pos h]
      obtain ⟨M1, e1, c1, w1⟩ := c.adv
      obtain ⟨M2, e2, c2, w2⟩ := ih (i + 1) (advP B n σ) M1 (by omega) c1
      refine ⟨M2, ?_, c2, w1.trans w2⟩
      rw [loop_turn (s' := (nI (i + 1), M1)), e2, show i + 1 + (ntP B n m (advP B n σ)).1 = i + ((ntP B n m (advP B n σ)).1 + 1) by omega]
      dsimp only
      unfold F_X3_takeNots_s2
      rw [if_neg (show ¬ (6 : Int32) ≤ nI i from nI_ge (b := 6) (by omega) (by omega)), Lc_1 c.lay, c.1.isW (k := 12) (by omega) (by omega), ob_t, if_pos h, if_neg (by decide), Lc_1 c.lay, e1, ob_t, nI_1]
    · rw [if_neg h]
      refine ⟨M, loop_end ?_, c, Fr.rfl'⟩
      dsimp only
      unfold F_X3_takeNots_s2
      rw [if_neg (show ¬ (6 : Int32) ≤ nI i from nI_ge (b := 6) (by omega) (by omega)), Lc_1 c.lay, c.1.isW (k := 12) (by omega) (by omega), ob_t, if_neg h, if_pos rfl]; rfl
theorem CSp.nots (c : CSp B n t M σ) (hq : σ.2.1 ≤ n) : ∃ M', F_X3_takeNots 1 M = some (nI (ntQ B n σ).1, M') ∧ CSp B n t M' (ntQ B n σ).2 ∧ Fr XR M M' := by
  obtain ⟨M1, e1, c1, w1⟩ := C_nots 6 0 σ M rfl c
  have b := nt_b (B := B) 6 σ hq
  rw [Nat.zero_add] at e1
  unfold F_X3_takeNots ntQ
  rw [show (0 : Int32) = nI 0 from rfl, e1, ob_t, u2_t]
  unfold F_X3_takeNots_j27
  by_cases h : (ntP B n 6 σ).1 = 6
  · rw [if_pos (by rw [h]; rfl), Lc_1 c1.lay, c1.1.isW (k := 12) (by omega) (by omega), ob_t]
    by_cases h' : cdT B n (ntP B n 6 σ).2.2.1 = 12
    · obtain ⟨M2, e2, c2, w2⟩ := c1.fail (w := 2) (by omega) (by omega)
      rw [if_pos h', if_neg (by decide), Lc_1 c1.lay, show (2 : Int32) = nI 2 from rfl, e2, ob_t, if_pos ⟨h, h'⟩]
      exact ⟨M2, rfl, c2, w1.trans w2⟩
    · rw [if_neg h', if_pos rfl, if_neg (fun y => h' y.2)]
      exact ⟨M1, rfl, c1, w1⟩
  · rw [if_neg (neL6 h (by omega)), if_neg (fun y => h y.1)]
    exact ⟨M1, rfl, c1, w1⟩
theorem C_emN : ∀ m i j (σ : Ps) (M : Mem), i + m = j → j < 2 ^ 31 → CSp B n t M σ → σ.1.length + m ≤ 700 → ∃ M', loop (fun s : Int32 × Mem => F_X3_takeJoined_s146 1 (nI j) s.1 s.2 R) (nI i, M) = some M' ∧ CSp B n t M' (emN m σ) ∧ Fr XR M M' := by
  intro m
  induction m with
  | zero =>
    intro i j σ M hi hj c _
    refine ⟨M, loop_end ?_, ?_, Fr.rfl'⟩
    · dsimp only
      unfold F_X3_takeJoined_s146
      rw [if_pos (nI_le (by omega) (by omega))]
    · unfold emN; rw [List.replicate_zero, List.append_nil]; exact c
  | succ m ih =>
    intro i j σ M hi hj c hl
    obtain ⟨M1, e1, c1, w1⟩ := c.emi (x := -8) (by omega)
    obtain ⟨M2, e2, c2, w2⟩ := ih (i + 1) j (emiP (-8) σ) M1 (by omega) hj c1 (by
      show (σ.1 ++ [(-8 : Int32)]).length + m ≤ 700
      rw [List.length_append, List.length_singleton]; omega)
    refine ⟨M2, ?_, ?_, w1.trans w2⟩
    · rw [loop_turn (s' := (nI (i + 1), M1)), e2]
      dsimp only
      unfold F_X3_takeJoined_s146
      rw [if_neg (nI_ge (by omega) (by omega)), Lc_1 c.lay, e1, ob_t, nI_1]
    · have : emN m (emiP (-8) σ) = emN (m + 1) σ := by
        unfold emN emiP
        rw [List.append_assoc]; rfl
      rw [← this]; exact c2
theorem C_jl {R : Nat → Nat → Int32 → Int32 → Mem → Option Mem} {P : Nat → Nat → Ps → Ps} {d L : Nat} (hL : L ≤ 4) (hP : ∀ σ : Ps, σ.2.1 ≤ n → PB n σ (P d (L + 1) σ)) (hR : SmJ B n t (R 0 1 (nI d) (nI (L + 1))) (P d (L + 1))) : ∀ m i j (σ : Ps) (M : Mem), i + m = j → j ≤ 700 → CSp B n t M σ → σ.1.length ≤ σ.2.1 → ∃ M', loop (fun s : Int32 × Mem => F_X3_takeJoined_s90 1 (nI d) (nI L) (nI j) s.1 s.2 R) (nI i, M) = some M' ∧ CSp B n t M' (jlP B n P d L m σ) ∧ Fr XR M M' := by
  intro m
  induction m with
  | zero =>
    intro i j σ M hi hj c _
    refine ⟨M, loop_end ?_, c, Fr.rfl'⟩
    dsimp only
    unfold F_X3_takeJoined_s90
    rw [if_pos (nI_le (by omega) (by omega))]
  | succ m ih =>
    intro i j σ M hi hj c hl
    have hn := c.1.1.2.1
    rw [jlP.eq_2]
    by_cases k : σ.2.2.1 = 0
    · by_cases s : jnI L (cdT B n σ.2.1) = 0
      · rw [if_neg (fun y => y.2 s)]
        refine ⟨M, loop_end ?_, c, Fr.rfl'⟩
        dsimp only
        unfold F_X3_takeJoined_s90
        rw [if_neg (nI_ge (by omega) (by omega)), Lf_1 c.lay, ob_t, c.2.2.2.1, if_pos (by rw [k]; rfl), Lc_1 c.lay, c.join hL, ob_t, if_pos s]
      · have c0 : cdT B n σ.2.1 ≠ 0 := fun y => s (by rw [y]; exact jn_0)
        obtain ⟨a1, a2⟩ := (PB.rfl' (n := n) c.1.2.1).adv1 (B := B) c0
        obtain ⟨M1, e1, c1, w1⟩ := c.adv
        obtain ⟨M2, e2, c2, w2⟩ := hR (advP B n σ) M1 c1 (by omega)
        have a3 := hP (advP B n σ) a2.2.1
        obtain ⟨M3, e3, c3, w3⟩ := c2.emi (x := jnI L (cdT B n σ.2.1)) (by have := a3.2.2; have := a3.2.1; omega)
        obtain ⟨M4, e4, c4, w4⟩ := ih (i + 1) j _ M3 (by omega) hj c3 (by
          show ((P d (L + 1) (advP B n σ)).1 ++ [_]).length ≤ (P d (L + 1) (advP B n σ)).2.1
          rw [List.length_append, List.length_singleton]
          have := a3.2.2; omega)
        rw [if_pos ⟨k, s⟩]
        refine ⟨M4, ?_, c4, ((w1.trans w2).trans w3).trans w4⟩
        rw [loop_turn (s' := (nI (i + 1), M3)), e4]
        dsimp only
        unfold F_X3_takeJoined_s90
        rw [if_neg (nI_ge (by omega) (by omega)), Lf_1 c.lay, ob_t, c.2.2.2.1, if_pos (by rw [k]; rfl), Lc_1 c.lay, c.join hL, ob_t, if_neg s, Lc_1 c.lay, e1, ob_t, Lc_1 c1.lay, nI_1, e2, ob_t, Lc_1 c2.lay, e3, ob_t, nI_1]
    · rw [if_neg (fun y => k y.1)]
      refine ⟨M, loop_end ?_, c, Fr.rfl'⟩
      dsimp only
      unfold F_X3_takeJoined_s90
      rw [if_neg (nI_ge (by omega) (by omega)), Lf_1 c.lay, ob_t, c.2.2.2.1, if_neg (neL0 k (by have := c.2.2.2.2.2.1; omega))]
theorem C_part {R : Nat → Nat → Int32 → Int32 → Mem → Option Mem} {P : Nat → Nat → Ps → Ps} {d : Nat} (ht : t ≤ 1) (hR : SmJ B n t (R 0 1 (nI (d + 1)) (nI 0)) (P (d + 1) 0)) : SmJ B n t (fun M => F_X3_takePart_b 1 (nI d) M R) (ptP B n t P d) := by
  intro σ M c hl
  have hn := c.1.1.2.1
  have hq := c.1.2.1
  dsimp only
  have val : ∀ x, cdT B n σ.2.1 ≠ 0 → ∃ M', (F_X3_emit 1 x M).bind (fun M72 => ckO M72 3 1 ((F_X3_advance 1 M72).bind fun M76 => some M76)) = some M' ∧ CSp B n t M' (advP B n (emiP x σ)) ∧ Fr XR M M' := fun x c0 => by
    have := cd_en hq c0
    obtain ⟨M1, e1, c1, w1⟩ := c.emi (x := x) (by omega)
    obtain ⟨M2, e2, c2, w2⟩ := c1.adv
    refine ⟨M2, ?_, c2, w1.trans w2⟩
    rw [e1, ob_t, Lc_1 c1.lay, e2, ob_t]
  have fl : ∀ w : Nat, 1 ≤ w → w ≤ 5 → ∃ M', (F_X3_fail 1 (nI w) M).bind (fun M72 => some M72) = some M' ∧ CSp B n t M' (failP B n w σ) ∧ Fr XR M M' := fun w h1 h2 => by
    obtain ⟨M1, e1, c1, w1⟩ := c.fail h1 h2
    exact ⟨M1, by rw [e1, ob_t], c1, w1⟩
  unfold F_X3_takePart_b ptP
  rw [c.1.kind, ob_t]
  by_cases k2 : 1 ≤ cdT B n σ.2.1 ∧ cdT B n σ.2.1 ≤ 16
  · rw [if_pos (c.1.k2.mpr k2), Lc_1 c.lay, c.fact ht, ob_t]
    unfold F_X3_takePart_j16
    by_cases f7 : fcN t (cdT B n σ.2.1) = 7
    · rw [if_pos f7, if_pos rfl, c.1.kind, ob_t, if_pos (c.1.k2.mpr k2), Lc_1 c.lay, if_neg (show ¬ fcN t (cdT B n σ.2.1) ≠ 7 from fun y => y f7), if_pos k2]
      exact fl 3 (by omega) (by omega)
    · have f8 : fcN t (cdT B n σ.2.1) < 8 := fc_8
      rw [if_neg f7, if_neg (nI_nm1 (by omega)), Lc_1 c.lay, if_pos f7]
      exact val _ (by omega)
  · have f7 : fcN t (cdT B n σ.2.1) = 7 := fc_w k2
    rw [if_neg (fun y => k2 (c.1.k2.mp y))]
    unfold F_X3_takePart_j16
    rw [if_pos rfl, c.1.kind, ob_t, if_neg (fun y => k2 (c.1.k2.mp y)), ob_t, if_neg (show ¬ fcN t (cdT B n σ.2.1) ≠ 7 from fun y => y f7), if_neg k2]
    by_cases k3 : cdT B n σ.2.1 = 17 ∨ 1000 ≤ cdT B n σ.2.1
    · rw [if_pos (c.1.k3.mpr k3), Lf_1 c.lay, ob_t, c.1.num k3]
      by_cases e : cdT B n σ.2.1 = 17
      · rw [if_pos e, if_pos rfl, Lc_1 c.lay, if_pos e]
        exact fl 2 (by omega) (by omega)
      · have cl := cd_le hq c.1.b
        rw [if_neg e, if_neg (nI_nm1 (by omega)), if_neg e, if_pos (by omega)]
        unfold F_X3_takePart_j76
        rw [c.1.kind, ob_t, if_pos (c.1.k3.mpr k3), Lf_1 c.lay, ob_t, c.1.num k3, if_neg e, Lc_1 c.lay]
        exact val _ (by omega)
    · rw [if_neg (fun y => k3 (c.1.k3.mp y)), if_neg (by omega), if_neg (by omega)]
      unfold F_X3_takePart_j76
      rw [c.1.kind, ob_t, if_neg (fun y => k3 (c.1.k3.mp y)), Lc_1 c.lay, show (40 : Int32) = nI 40 from rfl, c.1.isS (c := 40) (by decide) (by omega), ob_t]
      by_cases p : cdT B n σ.2.1 = 60
      · obtain ⟨M1, e1, c1, w1⟩ := c.adv
        have := cd_en hq (by omega : cdT B n σ.2.1 ≠ 0)
        obtain ⟨M2, e2, c2, w2⟩ := hR (advP B n σ) M1 c1 (by show σ.1.length ≤ enT B n σ.2.1; omega)
        rw [if_pos p, if_neg (by decide), Lc_1 c.lay, e1, ob_t, Lc_1 c1.lay, nI_1, show (0 : Int32) = nI 0 from rfl, e2, ob_t, Lf_1 c2.lay, ob_t, c2.2.2.2.1, if_pos p]
        by_cases z : (P (d + 1) 0 (advP B n σ)).2.2.1 = 0
        · rw [if_pos (by rw [z]), Lc_1 c2.lay, show (41 : Int32) = nI 41 from rfl, c2.1.isS (c := 41) (by decide) (by omega), ob_t]
          by_cases y : cdT B n (P (d + 1) 0 (advP B n σ)).2.1 = 61
          · obtain ⟨M3, e3, c3, w3⟩ := c2.adv
            rw [if_pos y, if_neg (by decide), Lc_1 c2.lay, e3, ob_t, if_pos ⟨z, y⟩]
            exact ⟨M3, rfl, c3, (w1.trans w2).trans w3⟩
          · obtain ⟨M3, e3, c3, w3⟩ := c2.fail (w := 1) (by omega) (by omega)
            rw [if_neg y, if_pos (show (0 : Int32) = nI 0 from rfl), Lc_1 c2.lay, show (1 : Int32) = nI 1 from rfl, e3, ob_t, if_neg (fun x => y x.2)]
            exact ⟨M3, rfl, c3, (w1.trans w2).trans w3⟩
        · obtain ⟨M3, e3, c3, w3⟩ := c2.fail (w := 1) (by omega) (by omega)
          rw [if_neg (fun y => z ((nI_eq (by have := c2.2.2.2.2.2.1; omega) (by omega)).mp y)), Lc_1 c2.lay, show (1 : Int32) = nI 1 from rfl, e3, ob_t, if_neg (fun x => z x.1)]
          exact ⟨M3, rfl, c3, (w1.trans w2).trans w3⟩
      · rw [if_neg p, if_pos rfl, Lc_1 c.lay, if_neg p]
        exact fl 1 (by omega) (by omega)
theorem C_sim (ht : t ≤ 1) : ∀ f k d L, ((d ≤ 5 ∧ L ≤ 5) ∨ (d = 6 ∧ L = 0)) → 37 ≤ 6 * d + L + f → 44 ≤ 7 * d + L + k → SmJ B n t (F_rec k 0 1 (nI d) (nI L)) (pjP B n t f d L) := by
  intro f
  induction f with
  | zero => intro k d L h1 h2 h3; omega
  | succ f ih =>
    intro k d L h1 h2 h3 σ M c hl
    have hn := c.1.1.2.1
    have hq := c.1.2.1
    cases k with
    | zero => omega
    | succ k =>
    have fl : ∀ w : Nat, 1 ≤ w → w ≤ 5 → ∃ M', (F_X3_fail 1 (nI w) M).bind (fun M72 => some M72) = some M' ∧ CSp B n t M' (failP B n w σ) ∧ Fr XR M M' := fun w h1 h2 => by
      obtain ⟨M1, e1, c1, w1⟩ := c.fail h1 h2
      exact ⟨M1, by rw [e1, ob_t], c1, w1⟩
    rw [F_rec.eq_2, if_pos rfl, pjP.eq_2]
    unfold F_X3_takeJoined_b tjP
    by_cases d5 : 5 < d
    · rw [if_neg (show ¬ nI d ≤ (5 : Int32) from nI_ge (a := 5) d5 (by omega)), if_pos d5, c.1.kind, ob_t]
      by_cases k3 : cdT B n σ.2.1 = 17 ∨ 1000 ≤ cdT B n σ.2.1
      · rw [if_pos (c.1.k3.mpr k3), Lc_1 c.lay, if_pos (by omega)]; exact fl 2 (by omega) (by omega)
      · rw [if_neg (fun y => k3 (c.1.k3.mp y)), ob_t]
        by_cases k2 : 1 ≤ cdT B n σ.2.1 ∧ cdT B n σ.2.1 ≤ 16
        · rw [if_pos (c.1.k2.mpr k2), Lc_1 c.lay, if_pos (by omega)]; exact fl 2 (by omega) (by omega)
        · rw [if_neg (fun y => k2 (c.1.k2.mp y)), Lc_1 c.lay, show (40 : Int32) = nI 40 from rfl, c.1.isS (c := 40) (by decide) (by omega), ob_t]
          by_cases p : cdT B n σ.2.1 = 60
          · rw [if_pos p, if_neg (by decide), Lc_1 c.lay, if_pos (by omega)]; exact fl 2 (by omega) (by omega)
          · rw [if_neg p, if_pos rfl, Lc_1 c.lay, if_neg (by omega)]; exact fl 1 (by omega) (by omega)
    · rw [if_pos (show nI d ≤ (5 : Int32) from nI_le (b := 5) (by omega) (by omega)), if_neg d5]
      by_cases L4 : 4 < L
      · have l5 : L = 5 := by omega
        subst l5
        rw [if_neg (show ¬ nI 5 ≤ (4 : Int32) by decide), if_pos L4, Lc_1 c.lay]
        cases k with
        | zero => omega
        | succ k =>
        obtain ⟨M1, e1, c1, w1⟩ := C_part (R := F_rec k) (P := pjP B n t f) (d := d) ht (ih k (d + 1) 0 (by omega) (by omega) (by omega)) σ M c hl
        refine ⟨M1, ?_, c1, w1⟩
        rw [F_rec.eq_2, if_neg (by omega)]
        dsimp only at e1
        rw [e1, ob_t]
      · rw [if_pos (show nI L ≤ (4 : Int32) from nI_le (b := 4) (by omega) (by omega)), if_neg L4]
        have hR := ih k d (L + 1) (by omega) (by omega) (by omega)
        by_cases L2 : L = 2
        · subst L2
          obtain ⟨M1, e1, c1, w1⟩ := c.nots hq
          obtain ⟨b1, b2, b3, b4⟩ := ntQ_b (B := B) hq
          obtain ⟨M2, e2, c2, w2⟩ := hR (ntQ B n σ).2 M1 c1 (by rw [b1]; omega)
          have p2 := pj_b (B := B) (t := t) f d (2 + 1) (ntQ B n σ).2 b3
          obtain ⟨M3, e3, c3, w3⟩ := C_jl (L := 2) (d := d) (by omega) (fun σ hσ => pj_b (B := B) (t := t) f d (2 + 1) σ hσ) hR 1 0 1 _ M2 (by omega) (by omega) c2 (by have := p2.2.2; rw [b1] at this; omega)
          have p3 := p2.trans (jl_b (B := B) (d := d) (L := 2) (fun d L σ h => pj_b (B := B) (t := t) f d L σ h) 1 _ p2.2.1)
          obtain ⟨M4, e4, c4, w4⟩ := C_emN (R := F_rec k) (ntQ B n σ).1 0 (ntQ B n σ).1 _ M3 (by omega) (by omega) c3 (by have x1 := p3.2.2; have x2 := p3.2.1; rw [b1] at x1; omega)
          rw [if_pos (show nI 2 = (2 : Int32) from rfl), if_pos rfl, Lc_1 c.lay, e1, bd2_t]
          unfold F_X3_takeJoined_j64
          rw [Lc_1 c1.lay, nI_1, e2, ob_t, if_pos (show nI 2 = (2 : Int32) from rfl)]
          have e3' : loop (fun s : Int32 × Mem => F_X3_takeJoined_s90 1 (nI d) (nI 2) (1 : Int32) s.1 s.2 (F_rec k)) ((0 : Int32), M2) = some M3 := e3
          have e4' : loop (fun s : Int32 × Mem => F_X3_takeJoined_s146 1 (nI (ntQ B n σ).1) s.1 s.2 (F_rec k)) ((0 : Int32), M3) = some M4 := e4
          rw [e3', ob_t, e4', ob_t]
          exact ⟨M4, rfl, c4, ((w1.trans w2).trans w3).trans w4⟩
        · obtain ⟨M2, e2, c2, w2⟩ := hR σ M c hl
          have p2 := pj_b (B := B) (t := t) f d (L + 1) σ hq
          obtain ⟨M3, e3, c3, w3⟩ := C_jl (L := L) (d := d) (by omega) (fun σ hσ => pj_b (B := B) (t := t) f d (L + 1) σ hσ) hR 700 0 700 _ M2 (by omega) (by omega) c2 (by have := p2.2.2; omega)
          have L2' : ¬ nI L = (2 : Int32) := fun y => L2 ((nI_eq (b := 2) (by omega) (by omega)).mp y)
          rw [if_neg L2', if_neg L2]
          unfold F_X3_takeJoined_j64
          rw [Lc_1 c.lay, nI_1, e2, ob_t, if_neg L2']
          have e3' : loop (fun s : Int32 × Mem => F_X3_takeJoined_s90 1 (nI d) (nI L) (700 : Int32) s.1 s.2 (F_rec k)) ((0 : Int32), M2) = some M3 := e3
          have e4' : loop (fun s : Int32 × Mem => F_X3_takeJoined_s146 1 (0 : Int32) s.1 s.2 (F_rec k)) ((0 : Int32), M3) = some M3 := loop_end (by
            dsimp only
            unfold F_X3_takeJoined_s146
            rw [if_pos (by decide)])
          rw [e3', ob_t, e4', ob_t]
          exact ⟨M3, rfl, c3, w2.trans w3⟩
end
