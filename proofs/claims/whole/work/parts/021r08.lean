/-! ===== a text is read: the reference, damp, rules, lines ===== -/
section
variable {M M' N N' N1 N2 : Mem} {B : Nat → Nat} {n q t : Nat} {X Y : Nat → Nat → Prop} {G : Gt}
def XC (k j : Nat) : Prop := XF k j ∨ (k = 67 ∧ j = 26) ∨ k = 78
theorem XF_C {k j : Nat} (h : XF k j) : XC k j := Or.inl h
theorem XC_B {k j : Nat} (h : XC k j) : XB k j := by
  unfold XC at h; unfold XB
  rcases h with h | h | h
  · exact Or.inl h
  · exact Or.inr (by omega)
  · exact Or.inr (by omega)
def LnW (B : Nat → Nat) (n : Nat) (N : Mem) : ((Nat → Int32) × Nat × Nat) ⊕ (Nat × Nat) → Prop
  | .inl (dam, D, q) => StM B n N (.inl q) ∧ mI N 67 26 = nI D ∧ (∀ j, j < D → mI N 78 j = dam j)
  | .inr f => FtM N f.1 f.2
def ouS (r : Mem ⊕ Mem) : Option Mem := Sum.elim (fun M39 => some M39) (fun f41 => some f41) r
theorem M_dstep {i : Nat} {dam : Nat → Int32} (k : TkM B n q N) (h : GoM N) (h26 : mI N 67 26 = nI i) (hi : i < 8) (hd : ∀ j, j < i → mI N 78 j = dam j) : ∃ N', Fr XC N N' ∧ ((∃ f, numS B n 0 9 (.inl q) = .inr f ∧ F_X9_readsDamp_s2 67 1 N = some (.inr (.inr N')) ∧ FtM N' f.1 f.2) ∨ ∃ q', numS B n 0 9 (.inl q) = .inl q' ∧ F_X9_readsDamp_s2 67 1 N = some (.inl ((if cdT B n q' = 17 ∨ 1000 ≤ cdT B n q' then 1 else 0), N')) ∧ StM B n N' (.inl q') ∧ mI N' 67 26 = nI (i + 1) ∧ ∀ j, j < i + 1 → mI N' 78 j = upg dam i (nvT B n q) j) := by
  have L := k.1.1
  have nF : ∀ k j, k ≠ 67 → ¬ XF k j := fun k j hk y => hk y.1
  obtain ⟨x, N1, e1, s1, w1, v1⟩ := M_number (lo := 0) (hi := 9) (by omega) (by omega) (s := .inl q) ⟨k, h⟩
  have e1' : F_X9_number 67 (0 : Int32) (9 : Int32) N = some (x, N1) := e1
  have L1 := s1.lay
  have pre : F_X9_readsDamp_s2 67 1 N = F_X9_readsDamp_j35_2 67 N := by
    unfold F_X9_readsDamp_s2
    rw [if_neg (by decide), Lc_67 L, M_g1 L h, ob_t, if_neg (by decide), Lf_67 L, ob_t, h26, if_neg (show ¬ nI i = (8 : Int32) from fun y => by have := (nI_eq (b := 8) (by omega) (by omega)).mp y; omega)]
  rw [pre]
  unfold F_X9_readsDamp_j35_2
  rw [Lc_67 L, e1', bd2_t]
  cases hs : numS B n 0 9 (.inl q) with
  | inr f =>
    rw [hs] at s1
    refine ⟨N1, w1.mono fun _ _ => XF_C, Or.inl ⟨f, rfl, ?_, s1⟩⟩
    rw [Lc_67 L1, FtM.bad s1, ob_t, if_pos rfl]
  | inl q' =>
    rw [hs] at s1
    have hx := v1 q q' rfl hs
    have o1 : mI N1 78 = mI N 78 := funext fun j => w1.at (nF 78 j (by omega))
    have s2 := (s1.st (k := 78) (j := i) (v := x) (by omega)).st (k := 67) (j := 26) (v := nI (i + 1)) (by omega)
    refine ⟨stI (stI N1 78 i x) 67 26 (nI (i + 1)), ((w1.mono fun _ _ => XF_C).st (Or.inr (Or.inr rfl))).st (Or.inr (Or.inl ⟨rfl, rfl⟩)), Or.inr ⟨q', rfl, ?_, s2, mI_se, fun j hj => ?_⟩⟩
    · rw [Lc_67 L1, M_g1 L1 s1.2, ob_t, if_neg (by decide), Lp_67_36 L1, ob_t, Lf_67 L1, ob_t, w1.at (by unfold XF; omega), h26, Lw_78 L1 hi, ob_t, Lf_67 L1.st, ob_t, mI_sn (by omega), w1.at (by unfold XF; omega), h26, nI_1, Ls_67 L1.st, ob_t, Lf_67 L1.st.st, ob_t, mI_sn (by omega), mI_sn (by omega), s1.1.sr]
      by_cases c : cdT B n q' = 17 ∨ 1000 ≤ cdT B n q'
      · rw [if_pos ((sr_2 s1.1.2.1 s1.1.b).mpr c), if_pos c]
      · rw [if_neg (fun y => c ((sr_2 s1.1.2.1 s1.1.b).mp y)), if_neg c]
    · rw [mI_sn (by omega)]
      by_cases e : j = i
      · rw [e, mI_se, upg_eq, hx]
      · rw [mI_sn (by omega), upg_ne e, o1]; exact hd j (by omega)
theorem M_dloop : ∀ (m i q : Nat) (dam : Nat → Int32) (N : Mem), i + m = 8 → TkM B n q N → GoM N → mI N 67 26 = nI i → (∀ j, j < i → mI N 78 j = dam j) → ∃ r N', loop (fun z : Int32 × Mem => F_X9_readsDamp_s2 67 z.1 z.2) ((if cdT B n q = 17 ∨ 1000 ≤ cdT B n q then (1 : Int32) else 0), N) = some r ∧ (r = .inl N' ∨ r = .inr N') ∧ LnW B n N' (dmL B n m dam i (.inl q)) ∧ Fr XC N N' := by
  intro m
  induction m with
  | zero =>
    intro i q dam N hi k h h26 hd
    have L := k.1.1
    by_cases c : cdT B n q = 17 ∨ 1000 ≤ cdT B n q
    · have ed : dmL B n 0 dam i (.inl q) = .inr (2, plT B n q) := if_pos c
      rw [if_pos c, ed]
      obtain ⟨N1, e1, f1, w1⟩ := M_wr (k := 2) k h (by omega) (by omega)
      refine ⟨.inr N1, N1, loop_end ?_, Or.inr rfl, f1, w1.mono fun _ _ => XF_C⟩
      dsimp only
      unfold F_X9_readsDamp_s2 F_X9_readsDamp_j35_2
      have nb : F_X9_number 67 (0 : Int32) (9 : Int32) N1 = some (0, N1) := by
        unfold F_X9_number
        rw [Lc_67 f1.1, f1.bad, ob_t, if_pos rfl]
      rw [if_neg (by decide), Lc_67 L, M_g1 L h, ob_t, if_neg (by decide), Lf_67 L, ob_t, h26, if_pos (show nI i = (8 : Int32) by rw [show i = 8 by omega]; rfl), Lf_67 L, ob_t, k.sr, if_pos ((sr_2 k.2.1 k.b).mpr c), Lc_67 L, show (2 : Int32) = nI 2 from rfl, e1, ob_t, Lc_67 f1.1, nb, bd2_t, Lc_67 f1.1, f1.bad, ob_t, if_pos rfl]
    · have ed : dmL B n 0 dam i (.inl q) = .inl (dam, i, q) := if_neg c
      rw [if_neg c, ed]
      refine ⟨.inl N, N, loop_end ?_, Or.inl rfl, ⟨⟨k, h⟩, h26, hd⟩, Fr.rfl'⟩
      dsimp only
      unfold F_X9_readsDamp_s2
      rw [if_pos rfl]
  | succ m ih =>
    intro i q dam N hi k h h26 hd
    have L := k.1.1
    by_cases c : cdT B n q = 17 ∨ 1000 ≤ cdT B n q
    · have ed : dmL B n (m + 1) dam i (.inl q) = dmL B n m (upg dam i (nvT B n q)) (i + 1) (numS B n 0 9 (.inl q)) := if_pos c
      rw [if_pos c, ed]
      obtain ⟨N1, w1, z⟩ := M_dstep k h h26 (by omega) hd
      rcases z with ⟨f, z1, z2, z3⟩ | ⟨q', z1, z2, z3, z4, z5⟩
      · rw [z1, dm_r]
        exact ⟨.inr N1, N1, loop_end z2, Or.inr rfl, z3, w1⟩
      · rw [z1]
        obtain ⟨r, N2, e2, r2, l2, w2⟩ := ih (i + 1) q' (upg dam i (nvT B n q)) N1 (by omega) z3.1 z3.2 z4 z5
        refine ⟨r, N2, ?_, r2, l2, w1.trans w2⟩
        rw [loop_turn (s' := ((if cdT B n q' = 17 ∨ 1000 ≤ cdT B n q' then (1 : Int32) else 0), N1)) z2, e2]
    · have ed : dmL B n (m + 1) dam i (.inl q) = .inl (dam, i, q) := if_neg c
      rw [if_neg c, ed]
      refine ⟨.inl N, N, loop_end ?_, Or.inl rfl, ⟨⟨k, h⟩, h26, hd⟩, Fr.rfl'⟩
      dsimp only
      unfold F_X9_readsDamp_s2
      rw [if_pos rfl]
theorem M_rDamp (d : DrM N G q) (hq0 : q ≤ n) (c : StM B n N (.inl (enT B n q))) (hD : tD G = 0) : ∃ N', F_X9_readsDamp 67 N = some N' ∧ LnM B n N' (dpL B n G q) ∧ Fr XB N N' := by
  obtain ⟨d1, d2, d3, d4, d5, s, d6, d7, d8, d9⟩ := d
  have L := c.lay
  have d26 : mI N 67 26 = nI 0 := by rw [d1.2.2, hD]
  obtain ⟨N1, w1, z⟩ := M_dstep (i := 0) (dam := tDam G) c.1 c.2 d26 (by omega) (fun j hj => by omega)
  unfold F_X9_readsDamp dpL
  rw [if_neg (by omega)]
  rcases z with ⟨f, z1, z2, z3⟩ | ⟨q', z1, z2, z3, z4, z5⟩
  · have e : loop (fun z : Int32 × Mem => F_X9_readsDamp_s2 67 z.1 z.2) ((1 : Int32), N) = some (.inr N1) := loop_end z2
    rw [e, ob_t, z1, dm_r]
    exact ⟨N1, rfl, z3, w1.mono fun _ _ => XC_B⟩
  · obtain ⟨r, N2, e2, r2, l2, w2⟩ := M_dloop 7 1 q' (upg (tDam G) 0 (nvT B n (enT B n q))) N1 (by omega) z3.1 z3.2 z4 z5
    have e : loop (fun z : Int32 × Mem => F_X9_readsDamp_s2 67 z.1 z.2) ((1 : Int32), N) = some r := by rw [loop_turn z2, e2]
    have w3 : Fr XC N N2 := w1.trans w2
    rw [e, ob_t, z1]
    have out : (Sum.elim (fun M39 => some M39) (fun f41 => some f41) r : Option Mem) = some N2 := by rcases r2 with rfl | rfl <;> rfl
    rw [out]
    refine ⟨N2, rfl, ?_, w3.mono fun _ _ => XC_B⟩
    obtain ⟨q0, y1, y2, y3⟩ := num_i z1
    have y1 := Sum.inl.inj y1
    subst y1
    have a0 := en_le (B := B) hq0
    have ap := pl_le (B := B) hq0
    have a1 := ok_e a0.2 y2
    cases hs : dmL B n 7 (upg (tDam G) 0 (nvT B n (enT B n q))) 1 (.inl q') with
    | inr f => rw [hs] at l2; exact l2
    | inl x =>
      obtain ⟨dam, D, q2⟩ := x
      rw [hs] at l2
      obtain ⟨t1, t2, t3⟩ := l2
      have mono : q' ≤ q2 := (g_dm (B := B) (n := n) 7 (upg (tDam G) 0 (nvT B n (enT B n q))) 1 (.inl q') dam D q2 (fun x ex => by
        have ex := Sum.inl.inj ex
        refine ⟨by omega, fun i hi => ?_⟩
        have : i = 0 := by omega
        rw [this, upg_eq]; exact ok_b y2 (by decide)) (by omega) hs).2.2.2 q' rfl
      have oo : ∀ k, k ≠ 67 → k ≠ 78 → mI N2 k = mI N k := fun k k1 k2 => funext fun j => w3.at (by unfold XC XF; omega)
      have o7 : ∀ j, 23 ≤ j → j ≠ 26 → mI N2 67 j = mI N 67 j := fun j j1 j2 => w3.at (by unfold XC XF; omega)
      refine ⟨t1, ⟨by rw [o7 24 (by omega) (by omega)]; exact d1.1, by rw [o7 25 (by omega) (by omega)]; exact d1.2.1, t2⟩, fun h hh => ?_, fun i hi => ?_, t3, by rw [oo 79 (by omega) (by omega)]; exact d5, s, by rw [o7 29 (by omega) (by omega)]; exact d6, by omega, ?_, ?_⟩
      · unfold WhG
        rw [oo 79 (by omega) (by omega), oo 75 (by omega) (by omega), oo 76 (by omega) (by omega)]; exact d2 h hh
      · rw [oo 79 (by omega) (by omega), oo 77 (by omega) (by omega)]; exact d3 i hi
      · rw [o7 27 (by omega) (by omega)]; exact d8.g (oo 80 (by omega) (by omega))
      · rw [o7 28 (by omega) (by omega)]; exact d9.g (oo 80 (by omega) (by omega))
theorem lyM_g {f g : Nat → Int32} : ∀ (o : List (Int32 × Int32)) (b : Nat), (∀ i, b ≤ i → i ≤ b + lenM o → g i = f i) → lyM f o b → lyM g o b
  | [], b, h, a => (h b (Nat.le_refl _) (by show b ≤ b + 0; omega)).trans a
  | p :: r, b, h, a => by
    have h : ∀ i, b ≤ i → i ≤ b + (if p.1 = 1 ∨ p.1 = 2 then lenM r + 2 else lenM r + 1) → g i = f i := h
    obtain ⟨a1, a2⟩ := a
    by_cases c : p.1 = 1 ∨ p.1 = 2
    · rw [if_pos c] at h
      refine ⟨(h b (by omega) (by omega)).trans a1, ?_⟩
      rw [if_pos c] at a2 ⊢
      exact ⟨(h (b + 1) (by omega) (by omega)).trans a2.1, lyM_g r (b + 2) (fun i h1 h2 => h i (by omega) (by omega)) a2.2⟩
    · rw [if_neg c] at h
      refine ⟨(h b (by omega) (by omega)).trans a1, ?_⟩
      rw [if_neg c] at a2 ⊢
      exact lyM_g r (b + 1) (fun i h1 h2 => h i (by omega) (by omega)) a2
theorem RlL.x {x : Int32} {o : Option (List Int32)} {s s' : Nat} (h : RlL N x o s) (hs : s ≤ s') (e : ∀ i, i < s → mI N' 80 i = mI N 80 i) : RlL N' x o s' := by
  rcases h with h | ⟨k, l, h1, h2, h3, h4⟩
  · exact Or.inl h
  · exact Or.inr ⟨k, l, h1, h2, lyM_g _ k (fun i _ hi => e i (by omega)) h3, by omega⟩
end
