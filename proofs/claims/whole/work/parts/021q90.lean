/-! ===== a text is read: the class, houses and people ===== -/
section
variable {M M' M1 M2 N N' : Mem} {B : Nat → Nat} {n q p : Nat} {X Y : Nat → Nat → Prop} {G : Gt}
def RuL (M : Mem) (x : Option Nat) (o : Option (List Int32)) : Prop := (x = none ∧ o = none) ∨ ∃ (k : Nat) (l : List Int32), x = some k ∧ o = some l ∧ NC ≤ k ∧ M.1[k]? = some (4, 0) ∧ mP M k 0 = some (k + 1) ∧ M.1[k + 1]? = some (100, l.length) ∧ l.length < 700 ∧ ∀ i, i < l.length → mI M (k + 1) i = l.getD i 0
def DrV (M : Mem) (p : Nat) (G : Gt) : Prop := (mI M p 0 = nI (tH G) ∧ mI M p 1 = nI (tP G) ∧ mI M p 2 = nI (tD G)) ∧ (tH G ≤ 8 ∧ tP G ≤ 8 ∧ tD G ≤ 8) ∧ (∀ h, h < tH G → mI M (p + 1) h = tSiz G h ∧ mI M (p + 2) h = tGiv G h ∧ mI M (p + 3) h = tStr G h) ∧ (∀ i, i < tP G → mI M (p + 4) i = tHee G i ∧ mI M (p + 5) i = tGro G i ∧ mI M (p + 6) i = tHom G i) ∧ (∀ i, i < tD G → mI M (p + 7) i = tDam G i) ∧ RuL M (mP M p 10) (tEas G) ∧ RuL M (mP M p 11) (tBur G)
def LnC (B : Nat → Nat) (n p : Nat) (M : Mem) : RlT → Prop
  | .inl (G, q) => (TkC B n q M ∧ mI M 1 3 = 0) ∧ DrV M p G
  | .inr f => CFt B n M f.1 f.2
def remG (G : Gt) : Nat := (if tEas G = none then 1 else 0) + (if tBur G = none then 1 else 0)
def remR : RlT → Nat
  | .inl (G, _) => remG G
  | .inr _ => 0
def GrC (M M' : Mem) (a b : Nat) : Prop := M'.1.length + 2 * b ≤ M.1.length + 2 * a ∧ mS M' + 701 * b ≤ mS M + 701 * a
def XL (p k j : Nat) : Prop := (k = 1 ∧ j ≠ 1) ∨ k = 3 ∨ (p ≤ k ∧ k ≤ p + 7)
def YL (p k j : Nat) : Prop := k = p ∧ (j = 10 ∨ j = 11)
theorem Fr.kp (w : Fr X M M') (h : ∀ k j, X k j → Y k j) {Z : Nat → Nat → Prop} : Kp Y Z M M' := ⟨by rw [w.1]; exact Nat.le_refl _, fun k _ => by rw [w.1], fun k j _ hk => w.at fun y => hk (h k j y), fun k j _ _ => by rw [w.2.1]⟩
theorem P_f (L : Lay M) (hp : p = 4 ∨ p = 14) {j : Nat} : gI M 2 p j = some (mI M p j) := gI_t (L.PlO hp).1
theorem P_s (L : Lay M) (hp : p = 4 ∨ p = 14) {j : Nat} {v : Int32} : pI M 2 p j v = some (stI M p j v) := pI_t (L.PlO hp).1
theorem P_3 (L : Lay M) (hp : p = 4 ∨ p = 14) : gP M 2 p 3 = some (p + 1) := gP_t (L.PlO hp).1 (L.PlO hp).2.1.2
theorem P_4 (L : Lay M) (hp : p = 4 ∨ p = 14) : gP M 2 p 4 = some (p + 2) := gP_t (L.PlO hp).1 (L.PlO hp).2.2.1.2
theorem P_5 (L : Lay M) (hp : p = 4 ∨ p = 14) : gP M 2 p 5 = some (p + 3) := gP_t (L.PlO hp).1 (L.PlO hp).2.2.2.1.2
theorem P_6 (L : Lay M) (hp : p = 4 ∨ p = 14) : gP M 2 p 6 = some (p + 4) := gP_t (L.PlO hp).1 (L.PlO hp).2.2.2.2.1.2
theorem P_7 (L : Lay M) (hp : p = 4 ∨ p = 14) : gP M 2 p 7 = some (p + 5) := gP_t (L.PlO hp).1 (L.PlO hp).2.2.2.2.2.1.2
theorem P_8 (L : Lay M) (hp : p = 4 ∨ p = 14) : gP M 2 p 8 = some (p + 6) := gP_t (L.PlO hp).1 (L.PlO hp).2.2.2.2.2.2.1.2
theorem P_9 (L : Lay M) (hp : p = 4 ∨ p = 14) : gP M 2 p 9 = some (p + 7) := gP_t (L.PlO hp).1 (L.PlO hp).2.2.2.2.2.2.2.1.2
theorem P_w (L : Lay M) (hp : p = 4 ∨ p = 14) {r i : Nat} {v : Int32} (h1 : 1 ≤ r) (h7 : r ≤ 7) (hi : i < 8) : sI M 100 (p + r) (nI i) v = some (stI M (p + r) i v) := by
  have o := L.PlO hp
  have : r = 1 ∨ r = 2 ∨ r = 3 ∨ r = 4 ∨ r = 5 ∨ r = 6 ∨ r = 7 := by omega
  rcases this with rfl | rfl | rfl | rfl | rfl | rfl | rfl
  · exact sI_t o.2.1.1 hi (by omega)
  · exact sI_t o.2.2.1.1 hi (by omega)
  · exact sI_t o.2.2.2.1.1 hi (by omega)
  · exact sI_t o.2.2.2.2.1.1 hi (by omega)
  · exact sI_t o.2.2.2.2.2.1.1 hi (by omega)
  · exact sI_t o.2.2.2.2.2.2.1.1 hi (by omega)
  · exact sI_t o.2.2.2.2.2.2.2.1.1 hi (by omega)
theorem num_i {lo hi q' : Nat} {s : RsT} (h : numS B n lo hi s = .inl q') : ∃ q0, s = .inl q0 ∧ okN lo hi (cdT B n q0) ∧ q' = enT B n q0 := by
  cases s with
  | inr f => cases h
  | inl q0 =>
    by_cases ok : okN lo hi (cdT B n q0)
    · rw [num_y ok] at h
      exact ⟨q0, rfl, ok, (Sum.inl.inj h).symm⟩
    · by_cases k : cdT B n q0 = 17 ∨ 1000 ≤ cdT B n q0
      · rw [num_n ok k] at h; cases h
      · rw [num_w k] at h; cases h
def XH (p k j : Nat) : Prop := XN k j ∨ (p ≤ k ∧ k ≤ p + 7)
theorem XN_H {k j : Nat} (h : XN k j) : XH p k j := Or.inl h
theorem RuL.fr {x : Option Nat} {o : Option (List Int32)} (h : RuL M x o) (w : Fr X M M') (hX : ∀ k j, NC ≤ k → ¬ X k j) : RuL M' x o := by
  rcases h with h | ⟨k, l, h1, h2, h3, h4, h5, h6, h7, h8⟩
  · exact Or.inl h
  · exact Or.inr ⟨k, l, h1, h2, h3, by rw [w.1]; exact h4, by rw [w.2.1]; exact h5, by rw [w.1]; exact h6, h7, fun i hi => (w.at (hX _ _ (by omega))).trans (h8 i hi)⟩
theorem C_house (hp : p = 4 ∨ p = 14) (c : LnC B n p M (.inl (G, q))) : ∃ M', F_X3_houseLine 1 p M = some M' ∧ LnC B n p M' (hsL B n G q) ∧ Fr (XH p) M M' := by
  obtain ⟨⟨t, h3⟩, d1, d2, d3, d4, d5, d6, d7⟩ := c
  have L := t.1.1
  unfold F_X3_houseLine hsL
  rw [P_f L hp, ob_t, d1.1]
  by_cases h8 : tH G = 8
  · obtain ⟨M', e, f, w, -⟩ := C_fl (k := 2) t h3 (by omega) (by omega)
    rw [if_neg (show ¬ nI (tH G) < (8 : Int32) by rw [h8]; decide), Lc_1 L, show (2 : Int32) = nI 2 from rfl, e, ob_t, if_pos h8]
    exact ⟨M', rfl, f, w.mono fun _ _ => XN_H⟩
  · have hH : tH G < 8 := by omega
    obtain ⟨M1, e1, s1, w1⟩ := C_ad t h3
    have L1 := s1.lay
    obtain ⟨x1, M2, e2, s2, w2, v1⟩ := C_number (lo := 1) (hi := 60) (by omega) (by omega) s1
    have s2' := s2.st (k := p + 1) (j := tH G) (v := x1) (by omega) (by omega)
    obtain ⟨x2, M3, e3, s3, w3, v2⟩ := C_number (lo := 0) (hi := 9) (by omega) (by omega) s2'
    have s3' := s3.st (k := p + 2) (j := tH G) (v := x2) (by omega) (by omega)
    obtain ⟨x3, M4, e4, s4, w4, v3⟩ := C_number (lo := 0) (hi := 30) (by omega) (by omega) s3'
    have s4' := (s4.st (k := p + 3) (j := tH G) (v := x3) (by omega) (by omega)).st (k := p) (j := 0) (v := nI (tH G + 1)) (by omega) (by omega)
    have L2 := s2.lay
    have L3 := s3.lay
    have L4 := s4.lay
    have f1 : Fr (XH p) M M1 := w1.mono fun _ _ => XN_H
    have f2 : Fr (XH p) M (stI M2 (p + 1) (tH G) x1) := (f1.trans (w2.mono fun _ _ => XN_H)).st (Or.inr (by omega))
    have f3 : Fr (XH p) M (stI M3 (p + 2) (tH G) x2) := (f2.trans (w3.mono fun _ _ => XN_H)).st (Or.inr (by omega))
    have f4 : Fr (XH p) M (stI M4 (p + 3) (tH G) x3) := (f3.trans (w4.mono fun _ _ => XN_H)).st (Or.inr (by omega))
    have nN : ∀ k j, k ≠ 1 → ¬ XN k j := fun k j hk y => hk y.1
    have o1 : ∀ k, k ≠ 1 → mI M1 k = mI M k := fun k hk => funext fun j => w1.at (nN k j hk)
    have o2 : ∀ k, k ≠ 1 → mI M2 k = mI M1 k := fun k hk => funext fun j => w2.at (nN k j hk)
    have o3 : ∀ k, k ≠ 1 → mI M3 k = mI (stI M2 (p + 1) (tH G) x1) k := fun k hk => funext fun j => w3.at (nN k j hk)
    have o4 : ∀ k, k ≠ 1 → mI M4 k = mI (stI M3 (p + 2) (tH G) x2) k := fun k hk => funext fun j => w4.at (nN k j hk)
    have a1 : mI M1 p 0 = nI (tH G) := by rw [o1 p (by omega)]; exact d1.1
    have a2 : mI (stI M2 (p + 1) (tH G) x1) p 0 = nI (tH G) := by rw [mI_sn (by omega), o2 p (by omega)]; exact a1
    have a3 : mI (stI M3 (p + 2) (tH G) x2) p 0 = nI (tH G) := by rw [mI_sn (by omega), o3 p (by omega)]; exact a2
    have a4 : mI (stI M4 (p + 3) (tH G) x3) p 0 = nI (tH G) := by rw [mI_sn (by omega), o4 p (by omega)]; exact a3
    rw [if_pos (show nI (tH G) < (8 : Int32) from nI_lt (b := 8) hH (by omega)), Lc_1 L, e1, ob_t, P_3 L1 hp, ob_t, P_f L1 hp, ob_t, a1, Lc_1 L1, show (1 : Int32) = nI 1 from rfl, show (60 : Int32) = nI 60 from rfl, e2, bd2_t, P_w L2 hp (by omega) (by omega) hH, ob_t, P_4 L2.st hp, ob_t, P_f L2.st hp, ob_t, a2, Lc_1 L2.st, show (0 : Int32) = nI 0 from rfl, show (9 : Int32) = nI 9 from rfl, e3, bd2_t, P_w L3 hp (by omega) (by omega) hH, ob_t, P_5 L3.st hp, ob_t, P_f L3.st hp, ob_t, a3, Lc_1 L3.st, show (30 : Int32) = nI 30 from rfl, e4, bd2_t, P_w L4 hp (by omega) (by omega) hH, ob_t, P_f L4.st hp, ob_t, a4, nI_add, P_s L4.st hp, ob_t, if_neg h8]
    have f5 : Fr (XH p) M (stI (stI M4 (p + 3) (tH G) x3) p 0 (nI (tH G + 1))) := f4.st (Or.inr (by omega))
    refine ⟨_, rfl, ?_, f5⟩
    cases hs : numS B n 0 30 (numS B n 0 9 (numS B n 1 60 (.inl (enT B n q)))) with
    | inr f => rw [hs] at s4'; exact s4'
    | inl q4 =>
      rw [hs] at s4'
      obtain ⟨q3, g3, -, -⟩ := num_i hs
      obtain ⟨q2, g2, -, rfl⟩ := num_i g3
      obtain ⟨q1, g1, -, rfl⟩ := num_i g2
      have g1' := Sum.inl.inj g1
      subst g1'
      have y1 := v1 _ _ rfl g2
      have y2 := v2 _ _ g2 g3
      have y3 := v3 _ _ g3 hs
      have hX : ∀ k j, NC ≤ k → ¬ XH p k j := fun k j hk y => by
        have hk : 98 ≤ k := hk
        rcases y with y | y
        · have := y.1; omega
        · omega
      have q1 : ∀ h, h ≠ tH G → mI (stI (stI M4 (p + 3) (tH G) x3) p 0 (nI (tH G + 1))) (p + 1) h = mI M (p + 1) h ∧ mI (stI (stI M4 (p + 3) (tH G) x3) p 0 (nI (tH G + 1))) (p + 2) h = mI M (p + 2) h ∧ mI (stI (stI M4 (p + 3) (tH G) x3) p 0 (nI (tH G + 1))) (p + 3) h = mI M (p + 3) h := fun h hh => by
        refine ⟨?_, ?_, ?_⟩
        · rw [mI_sn (by omega), mI_sn (by omega), o4 _ (by omega), mI_sn (by omega), o3 _ (by omega), mI_sn (by omega), o2 _ (by omega), o1 _ (by omega)]
        · rw [mI_sn (by omega), mI_sn (by omega), o4 _ (by omega), mI_sn (by omega), o3 _ (by omega), mI_sn (by omega), o2 _ (by omega), o1 _ (by omega)]
        · rw [mI_sn (by omega), mI_sn (by omega), o4 _ (by omega), mI_sn (by omega), o3 _ (by omega), mI_sn (by omega), o2 _ (by omega), o1 _ (by omega)]
      have q2 : ∀ k, k ≠ 1 → k ≠ p → k ≠ p + 1 → k ≠ p + 2 → k ≠ p + 3 → mI (stI (stI M4 (p + 3) (tH G) x3) p 0 (nI (tH G + 1))) k = mI M k := fun k k1 k2 k3 k4 k5 => by
        funext j
        rw [mI_sn (by omega), mI_sn (by omega), o4 _ k1, mI_sn (by omega), o3 _ k1, mI_sn (by omega), o2 _ k1, o1 _ k1]
      have q3 : ∀ j, j ≠ 0 → mI (stI (stI M4 (p + 3) (tH G) x3) p 0 (nI (tH G + 1))) p j = mI M p j := fun j hj => by
        rw [mI_sn (by omega), mI_sn (by omega), o4 _ (by omega), mI_sn (by omega), o3 _ (by omega), mI_sn (by omega), o2 _ (by omega), o1 _ (by omega)]
      refine ⟨s4', ⟨mI_se, (q3 1 (by omega)).trans d1.2.1, (q3 2 (by omega)).trans d1.2.2⟩, ⟨by show tH G + 1 ≤ 8; omega, d2.2⟩, fun h hh => ?_, fun i hi => ?_, fun i hi => ?_, ?_, ?_⟩
      · have hh : h < tH G + 1 := hh
        show _ = upg (tSiz G) (tH G) _ h ∧ _ = upg (tGiv G) (tH G) _ h ∧ _ = upg (tStr G) (tH G) _ h
        by_cases e : h = tH G
        · subst e
          rw [upg_eq, upg_eq, upg_eq]
          refine ⟨?_, ?_, ?_⟩
          · rw [mI_sn (by omega), mI_sn (by omega), o4 _ (by omega), mI_sn (by omega), o3 _ (by omega), mI_se, y1]
          · rw [mI_sn (by omega), mI_sn (by omega), o4 _ (by omega), mI_se, y2]
          · rw [mI_sn (by omega), mI_se, y3]
        · rw [upg_ne e, upg_ne e, upg_ne e, (q1 h e).1, (q1 h e).2.1, (q1 h e).2.2]
          exact d3 h (by omega)
      · rw [q2 (p + 4) (by omega) (by omega) (by omega) (by omega) (by omega), q2 (p + 5) (by omega) (by omega) (by omega) (by omega) (by omega), q2 (p + 6) (by omega) (by omega) (by omega) (by omega) (by omega)]
        exact d4 i hi
      · rw [q2 (p + 7) (by omega) (by omega) (by omega) (by omega) (by omega)]; exact d5 i hi
      · rw [f5.2.1]; exact d6.fr f5 hX
      · rw [f5.2.1]; exact d7.fr f5 hX
end
