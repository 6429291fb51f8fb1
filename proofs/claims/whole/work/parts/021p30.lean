/-! ===== the class: states, plans, rules ===== -/
/-- a state's cells: the object, then its six rows -/
def StO (M : Mem) (a : Nat) : Prop := M.1[a]? = some (6, 0) ∧ (M.1[a + 1]? = some (100, 8) ∧ mP M a 3 = some (a + 1)) ∧ (M.1[a + 2]? = some (100, 8) ∧ mP M a 4 = some (a + 2)) ∧ (M.1[a + 3]? = some (100, 8) ∧ mP M a 5 = some (a + 3)) ∧ (M.1[a + 4]? = some (100, 8) ∧ mP M a 6 = some (a + 4)) ∧ (M.1[a + 5]? = some (100, 8) ∧ mP M a 7 = some (a + 5)) ∧ (M.1[a + 6]? = some (100, 8) ∧ mP M a 8 = some (a + 6))
/-- a plan's cells: the object, seven rows, the facts, the stack -/
def PlO (M : Mem) (p : Nat) : Prop := M.1[p]? = some (2, 0) ∧ (M.1[p + 1]? = some (100, 8) ∧ mP M p 3 = some (p + 1)) ∧ (M.1[p + 2]? = some (100, 8) ∧ mP M p 4 = some (p + 2)) ∧ (M.1[p + 3]? = some (100, 8) ∧ mP M p 5 = some (p + 3)) ∧ (M.1[p + 4]? = some (100, 8) ∧ mP M p 6 = some (p + 4)) ∧ (M.1[p + 5]? = some (100, 8) ∧ mP M p 7 = some (p + 5)) ∧ (M.1[p + 6]? = some (100, 8) ∧ mP M p 8 = some (p + 6)) ∧ (M.1[p + 7]? = some (100, 8) ∧ mP M p 9 = some (p + 7)) ∧ (M.1[p + 8]? = some (100, 7) ∧ mP M p 12 = some (p + 8)) ∧ (M.1[p + 9]? = some (100, 32) ∧ mP M p 13 = some (p + 9))
theorem StO.wr {L : List Nat} {M M' : Mem} {a : Nat} (h : StO M a) (w : Wr L M M') : StO M' a := by unfold StO; rw [w.1, w.2.2.1]; exact h
theorem PlO.wr {L : List Nat} {M M' : Mem} {a : Nat} (h : PlO M a) (w : Wr L M M') : PlO M' a := by unfold PlO; rw [w.1, w.2.2.1]; exact h
/-- the first cell behind the fixed ones -/
def NC : Nat := 98
/-- a rule's cells, which lie behind the fixed ones -/
def RuO (M : Mem) (k : Nat) (f : Ev) : Prop := M.1[k]? = some (4, 0) ∧ NC ≤ k ∧ ∃ (c : Nat) (l : List Int32), NC ≤ c ∧ mP M k 0 = some c ∧ M.1[c]? = some (100, l.length) ∧ l.length < 700 ∧ (∀ i, i < l.length → mI M c i = l.getD i 0) ∧ DenC l f
def RuQ (M : Mem) (q : Option Nat) (f : Option Ev) : Prop := (q = none ∧ f = none) ∨ ∃ k e, q = some k ∧ f = some e ∧ RuO M k e
theorem RuO.wr {L : List Nat} {M M' : Mem} {k : Nat} {f : Ev} (h : RuO M k f) (w : Wr L M M') (hL : ∀ k ∈ L, k < NC) : RuO M' k f := by
  obtain ⟨h1, h2, c, l, h3, h4, h5, h6, h7, h8⟩ := h
  refine ⟨by rw [w.1]; exact h1, h2, c, l, h3, by rw [w.2.2.1]; exact h4, by rw [w.1]; exact h5, h6, fun i hi => ?_, h8⟩
  rw [w.2.2.2.2 c (fun z => absurd (hL c z) (Nat.not_lt.mpr h3))]
  exact h7 i hi
theorem RuQ.wr {L : List Nat} {M M' : Mem} {q : Option Nat} {f : Option Ev} (h : RuQ M q f) (w : Wr L M M') (hL : ∀ k ∈ L, k < NC) : RuQ M' q f := by
  rcases h with h | ⟨k, e, h1, h2, h3⟩
  · exact Or.inl h
  · exact Or.inr ⟨k, e, h1, h2, h3.wr w hL⟩
/-- the plan at p tells g -/
def PlV (M : Mem) (p : Nat) (g : Pg) : Prop := PlO M p ∧ GdP g ∧ mI M p 0 = nI (gH g) ∧ mI M p 1 = nI (gN g) ∧ mI M p 2 = nI (gD g) ∧ (∀ h, h < gH g → mI M (p + 2) h = gGiv g h ∧ mI M (p + 3) h = gStr g h) ∧ (∀ i, i < gN g → mI M (p + 5) i = gGro g i) ∧ (∀ i, i < gD g → mI M (p + 7) i = gDam g i) ∧ RuQ M (mP M p 10) (gEas g) ∧ RuQ M (mP M p 11) (gBur g)
theorem PlV.wr {L : List Nat} {M M' : Mem} {p : Nat} {g : Pg} (h : PlV M p g) (w : Wr L M M') (hL : ∀ k ∈ L, k < NC ∧ (k < p ∨ p + 8 ≤ k)) : PlV M' p g := by
  obtain ⟨h1, h2, h3, h4, h5, h6, h7, h8, h9, h10⟩ := h
  have e : ∀ j, j < 8 → mI M' (p + j) = mI M (p + j) := fun j hj => w.2.2.2.2 _ fun z => by have := (hL _ z).2; omega
  have e0 : mI M' p = mI M p := e 0 (by omega)
  refine ⟨h1.wr w, h2, by rw [e0]; exact h3, by rw [e0]; exact h4, by rw [e0]; exact h5, fun i hi => by rw [e 2 (by omega), e 3 (by omega)]; exact h6 i hi, fun i hi => by rw [e 5 (by omega)]; exact h7 i hi, fun i hi => by rw [e 7 (by omega)]; exact h8 i hi, by rw [w.2.2.1]; exact h9.wr w fun k hk => (hL k hk).1, by rw [w.2.2.1]; exact h10.wr w fun k hk => (hL k hk).1⟩
/-- the state at a is s -/
def StV (M : Mem) (a : Nat) (g : Pg) (s : Sg) : Prop := StO M a ∧ mI M a 0 = sDay s ∧ mI M a 1 = sWet s ∧ mI M a 2 = sBur s ∧ (∀ h, h < gH g → mI M (a + 1) h = sSiz s h ∧ mI M (a + 2) h = sWor s h ∧ mI M (a + 3) h = sWho s h) ∧ ∀ p, p < gN g → mI M (a + 4) p = sHee s p ∧ mI M (a + 5) p = wheS g s p ∧ mI M (a + 6) p = sSor s p
theorem StV.wr {L : List Nat} {M M' : Mem} {a : Nat} {g : Pg} {s : Sg} (h : StV M a g s) (w : Wr L M M') (hL : ∀ k ∈ L, k < a ∨ a + 7 ≤ k) : StV M' a g s := by
  obtain ⟨h1, h2, h3, h4, h5, h6⟩ := h
  have e : ∀ j, j < 7 → mI M' (a + j) = mI M (a + j) := fun j hj => w.2.2.2.2 _ fun z => by have := hL _ z; omega
  have e0 : mI M' a = mI M a := e 0 (by omega)
  exact ⟨h1.wr w, by rw [e0]; exact h2, by rw [e0]; exact h3, by rw [e0]; exact h4, fun h hh => by rw [e 1 (by omega), e 2 (by omega), e 3 (by omega)]; exact h5 h hh, fun p hp => by rw [e 4 (by omega), e 5 (by omega), e 6 (by omega)]; exact h6 p hp⟩
theorem lt31 {a b : Nat} (h : a < b) (hb : b ≤ 10000) : a < 2 ^ 31 := by omega
theorem F_tight {M : Mem} {a p h : Nat} {g : Pg} {s : Sg} (hs : StV M a g s) (hg : GdP g) (hp : p < gN g) (hh : h < gH g) : F_X6_tight a (nI p) (nI h) M = some (tightS s p h) := by
  obtain ⟨⟨t0, ⟨t1, q1⟩, ⟨t2, q2⟩, ⟨t3, q3⟩, ⟨t4, q4⟩, ⟨t5, q5⟩, ⟨t6, q6⟩⟩, h2, h3, h4, h5, h6⟩ := hs
  have h8 : h < 8 := Nat.lt_of_lt_of_le hh hg.1
  have p8 : p < 8 := Nat.lt_of_lt_of_le hp hg.2.1
  unfold F_X6_tight tightS
  simp only [gP_t t0 q4, gP_t t0 q1, ob_t, aI_t t4 p8 (by omega), aI_t t1 h8 (by omega), (h6 p hp).1, (h5 h hh).1]
theorem F_tell {M : Mem} {p a q h : Nat} {d : Int32} {g : Pg} {s : Sg} (hv : PlV M p g) (hs : StV M a g s) (sep : p + 10 ≤ a) (hq : q < gN g) (hh : h < gH g) : ∃ M', F_X2_tellFacts p a (nI q) (nI h) d M = some M' ∧ Wr [p + 8] M M' ∧ ∀ k, k < 7 → mI M' (p + 8) k = facS g s q h d k := by
  obtain ⟨⟨t0, ⟨t1, q1⟩, ⟨t2, q2⟩, ⟨t3, q3⟩, ⟨t4, q4⟩, ⟨t5, q5⟩, ⟨t6, q6⟩⟩, h2, h3, h4, h5, h6⟩ := hs
  obtain ⟨⟨u0, ⟨u1, r1⟩, ⟨u2, r2⟩, ⟨u3, r3⟩, ⟨u4, r4⟩, ⟨u5, r5⟩, ⟨u6, r6⟩, ⟨u7, r7⟩, ⟨u8, r8⟩, ⟨u9, r9⟩⟩, hg, v3, v4, v5, v6, v7, v8, v9, v10⟩ := hv
  have h8 : h < 8 := Nat.lt_of_lt_of_le hh hg.1
  have p8 : q < 8 := Nat.lt_of_lt_of_le hq hg.2.1
  have n1 : a + 4 ≠ p + 8 := by omega
  have n2 : a + 1 ≠ p + 8 := by omega
  have n3 : a + 2 ≠ p + 8 := by omega
  have n4 : a ≠ p + 8 := by omega
  have n5 : p + 2 ≠ p + 8 := by omega
  have z : ∀ (j : Nat) (N : Mem) (v : Int32), N.1[p + 8]? = some (100, 7) → j < 7 → sI N 100 (p + 8) (nI j) v = some (stI N (p + 8) j v) := fun j N v hN hj => sI_t hN hj (by omega)
  have z0 : ∀ (N : Mem) (v : Int32), N.1[p + 8]? = some (100, 7) → sI N 100 (p + 8) 0 v = some (stI N (p + 8) 0 v) := fun N v hN => z 0 N v hN (by omega)
  have z1 : ∀ (N : Mem) (v : Int32), N.1[p + 8]? = some (100, 7) → sI N 100 (p + 8) 1 v = some (stI N (p + 8) 1 v) := fun N v hN => z 1 N v hN (by omega)
  have z2 : ∀ (N : Mem) (v : Int32), N.1[p + 8]? = some (100, 7) → sI N 100 (p + 8) 2 v = some (stI N (p + 8) 2 v) := fun N v hN => z 2 N v hN (by omega)
  have z3 : ∀ (N : Mem) (v : Int32), N.1[p + 8]? = some (100, 7) → sI N 100 (p + 8) 3 v = some (stI N (p + 8) 3 v) := fun N v hN => z 3 N v hN (by omega)
  have z4 : ∀ (N : Mem) (v : Int32), N.1[p + 8]? = some (100, 7) → sI N 100 (p + 8) 4 v = some (stI N (p + 8) 4 v) := fun N v hN => z 4 N v hN (by omega)
  have z5 : ∀ (N : Mem) (v : Int32), N.1[p + 8]? = some (100, 7) → sI N 100 (p + 8) 5 v = some (stI N (p + 8) 5 v) := fun N v hN => z 5 N v hN (by omega)
  have z6 : ∀ (N : Mem) (v : Int32), N.1[p + 8]? = some (100, 7) → sI N 100 (p + 8) 6 v = some (stI N (p + 8) 6 v) := fun N v hN => z 6 N v hN (by omega)
  unfold F_X2_tellFacts
  simp only [gP_st, aI_stne n1, aI_stne n2, aI_stne n3, aI_stne n5, gI_stne n4, gP_t u0 r8, gP_t t0 q4, gP_t t0 q1, gP_t t0 q2, gP_t u0 r2, ob_t, aI_t t4 p8 (by omega), aI_t t1 h8 (by omega), aI_t t2 h8 (by omega), aI_t u2 h8 (by omega), gI_t t0, z0, z1, z2, z3, z4, z5, z6, tg_st, u8, (h6 q hq).1, (h5 h hh).1, (h5 h hh).2.1, (v6 h hh).1, h2]
  refine ⟨_, rfl, ((((((((Wr.rfl' (L := [p + 8]) (M := M)).st List.mem_cons_self).st List.mem_cons_self).st List.mem_cons_self).st List.mem_cons_self).st List.mem_cons_self).st List.mem_cons_self).st List.mem_cons_self), fun k hk => ?_⟩
  have : k = 0 ∨ k = 1 ∨ k = 2 ∨ k = 3 ∨ k = 4 ∨ k = 5 ∨ k = 6 := by omega
  rcases this with rfl | rfl | rfl | rfl | rfl | rfl | rfl <;> simp [mI_st, facS, tightS]
/-- the stack as it lies in its row -/
def stkAt (f : Nat → Int32) : List Int32 → Prop
  | [] => True
  | x :: r => f r.length = x ∧ stkAt f r
theorem stkAt.eq {f f' : Nat → Int32} : ∀ {r : List Int32}, stkAt f r → (∀ j, j < r.length → f' j = f j) → stkAt f' r
  | [], _, _ => trivial
  | x :: r, h, e => ⟨(e _ (by simp)).trans h.1, h.2.eq fun j hj => e j (by simp; omega)⟩
theorem nI_m1 (n : Nat) : nI (n + 1) + (-1) = nI n := by
  rw [← nI_pred n, Int32.sub_eq_add_neg]
theorem neg7 {x : Int32} (h1 : x < 0) (h2 : ¬ x < -7) : x = -1 ∨ x = -2 ∨ x = -3 ∨ x = -4 ∨ x = -5 ∨ x = -6 ∨ x = -7 := by
  have e1 : x.toInt < 0 := Int32.lt_iff_toInt_lt.mp h1
  have e2 : ¬ x.toInt < -7 := fun z => h2 (Int32.lt_iff_toInt_lt.mpr z)
  have : x.toInt = -1 ∨ x.toInt = -2 ∨ x.toInt = -3 ∨ x.toInt = -4 ∨ x.toInt = -5 ∨ x.toInt = -6 ∨ x.toInt = -7 := by omega
  rcases this with h | h | h | h | h | h | h
  · exact Or.inl (Int32.toInt_inj.mp h)
  · exact Or.inr (Or.inl (Int32.toInt_inj.mp h))
  · exact Or.inr (Or.inr (Or.inl (Int32.toInt_inj.mp h)))
  · exact Or.inr (Or.inr (Or.inr (Or.inl (Int32.toInt_inj.mp h))))
  · exact Or.inr (Or.inr (Or.inr (Or.inr (Or.inl (Int32.toInt_inj.mp h)))))
  · exact Or.inr (Or.inr (Or.inr (Or.inr (Or.inr (Or.inl (Int32.toInt_inj.mp h))))))
  · exact Or.inr (Or.inr (Or.inr (Or.inr (Or.inr (Or.inr (Int32.toInt_inj.mp h))))))
theorem neg7i {x : Int32} (h1 : x < 0) (h2 : ¬ x < -7) : ∃ j, j < 7 ∧ -1 - x = nI j := by
  rcases neg7 h1 h2 with h | h | h | h | h | h | h <;> subst h
  · exact ⟨0, by omega, by decide +kernel⟩
  · exact ⟨1, by omega, by decide +kernel⟩
  · exact ⟨2, by omega, by decide +kernel⟩
  · exact ⟨3, by omega, by decide +kernel⟩
  · exact ⟨4, by omega, by decide +kernel⟩
  · exact ⟨5, by omega, by decide +kernel⟩
  · exact ⟨6, by omega, by decide +kernel⟩
theorem F_value_step {M : Mem} {p k c n i : Nat} {fc : Nat → Int32} {x : Int32} {st : List Int32} (t0 : M.1[k]? = some (4, 0)) (q0 : mP M k 0 = some c) (tc : M.1[c]? = some (100, n)) (hn : n < 700) (hi : i < n) (hx : mI M c i = x) (u8 : M.1[p + 8]? = some (100, 7)) (u9 : M.1[p + 9]? = some (100, 32)) (hf : ∀ i, i < 7 → mI M (p + 8) i = fc i) (hst : stkAt (mI M (p + 9)) st) (hl : st.length ≤ 32) (hl2 : (stepC fc st x).length ≤ 32) :
    ∃ M', F_X4_value_s5 k (p + 8) (p + 9) (nI st.length) (nI i) M = some (.inl (nI (stepC fc st x).length, nI (i + 1), M')) ∧ Wr [p + 9] M M' ∧ stkAt (mI M' (p + 9)) (stepC fc st x) := by
  unfold F_X4_value_s5
  simp only [gP_t t0 q0, alen_t tc, ob_t, aI_t tc hi (by omega), hx, alen_t u9, nI_1]
  rw [if_neg (show ¬ nI n ≤ nI i from fun z => by rw [nI_leI (by omega) (by omega)] at z; omega)]
  by_cases c1 : x < -7
  · rw [if_pos c1]
    unfold stepC at hl2 ⊢
    rw [if_pos c1] at hl2 ⊢
    by_cases c2 : x = -8
    · rw [if_pos c2] at hl2 ⊢
      rw [if_pos c2]
      cases st with
      | nil =>
        rw [if_pos (by decide)]
        exact ⟨M, rfl, Wr.rfl', hst⟩
      | cons t r =>
        simp only [List.length_cons] at hl hl2 ⊢
        rw [if_neg (nI_nle (by omega) (by omega)), nI_pred, aI_t u9 (i := r.length) (by omega) (by omega), ob_t, hst.1]
        have hr : ∀ v, stkAt (mI (stI M (p + 9) r.length v) (p + 9)) r := fun v => hst.2.eq fun j hj => by rw [mI_steq, upg_ne (by omega)]
        split
        · rw [sI_t u9 (i := r.length) (by omega) (by omega)]
          exact ⟨_, rfl, Wr.rfl'.st List.mem_cons_self, by rw [mI_steq, upg_eq], hr _⟩
        · rw [sI_t u9 (i := r.length) (by omega) (by omega)]
          exact ⟨_, rfl, Wr.rfl'.st List.mem_cons_self, by rw [mI_steq, upg_eq], hr _⟩
    · rw [if_neg c2] at hl2 ⊢
      rw [if_neg c2]
      match st, hst, hl, hl2 with
      | [], hst, _, _ =>
        rw [if_pos (by decide)]
        exact ⟨M, rfl, Wr.rfl', trivial⟩
      | [b], hst, _, _ =>
        rw [if_pos (show nI [b].length ≤ 1 from (by decide : nI 1 ≤ 1))]
        exact ⟨M, rfl, Wr.rfl', hst⟩
      | b :: a :: r, hst, hl, hl2 =>
        simp only [List.length_cons] at hl hl2 ⊢
        rw [if_neg (show ¬ nI (r.length + 1 + 1) ≤ 1 from fun z => by rw [show (1 : Int32) = nI 1 from rfl, nI_leI (by omega) (by omega)] at z; omega), nI_m1, nI_pred, aI_t u9 (i := r.length) (by omega) (by omega), ob_t, aI_t u9 (i := r.length + 1) (by omega) (by omega), ob_t, F_join, ob_t, sI_t u9 (i := r.length) (by omega) (by omega), ob_t]
        have hb : mI M (p + 9) (r.length + 1) = b := hst.1
        rw [hst.2.1, hb]
        exact ⟨_, rfl, Wr.rfl'.st List.mem_cons_self, by rw [mI_steq, upg_eq], hst.2.2.eq fun j hj => by rw [mI_steq, upg_ne (by omega)]⟩
  · rw [if_neg c1]
    unfold stepC at hl2 ⊢
    rw [if_neg c1] at hl2 ⊢
    simp only [List.length_cons] at hl2 ⊢
    rw [if_neg (show ¬ nI 32 ≤ nI st.length from fun z => by rw [nI_leI (by omega) (by omega)] at z; omega)]
    have hr : ∀ v, stkAt (mI (stI M (p + 9) st.length v) (p + 9)) st := fun v => hst.eq fun j hj => by rw [mI_steq, upg_ne (by omega)]
    by_cases c3 : x < 0
    · rw [if_pos c3]
      obtain ⟨j, hj, ej⟩ := neg7i c3 c1
      rw [ej, aI_t u8 hj (by omega), ob_t, sI_t u9 (i := st.length) (by omega) (by omega), hf j hj]
      refine ⟨_, rfl, Wr.rfl'.st List.mem_cons_self, ?_, hr _⟩
      rw [mI_steq, upg_eq, if_pos c3, nI_clamp (by omega)]
    · rw [if_neg c3, sI_t u9 (i := st.length) (by omega) (by omega)]
      refine ⟨_, rfl, Wr.rfl'.st List.mem_cons_self, ?_, hr _⟩
      rw [mI_steq, upg_eq, if_neg c3]
theorem runC_take {fc : Nat → Int32} {l : List Int32} {i : Nat} (h : i < l.length) : runC fc (l.take (i + 1)) [] = stepC fc (runC fc (l.take i) []) (l.getD i 0) := by
  unfold runC
  rw [List.take_succ_eq_append_getElem h, List.foldl_append]
  simp [List.getD_eq_getElem?_getD, List.getElem?_eq_getElem h]
theorem F_value {M : Mem} {p k : Nat} {fc : Nat → Int32} {f : Ev} (hr : RuO M k f) (u8 : M.1[p + 8]? = some (100, 7)) (u9 : M.1[p + 9]? = some (100, 32)) (hp : p + 10 ≤ NC) (hf : ∀ i, i < 7 → mI M (p + 8) i = fc i) : ∃ M', F_X4_value k (p + 8) (p + 9) M = some (f fc, M') ∧ Wr [p + 9] M M' := by
  obtain ⟨h1, h2, c, l, h3, h4, h5, h6, h7, h8, h9⟩ := hr
  have key := loop_ex (step := fun s => F_X4_value_s5 k (p + 8) (p + 9) s.1 s.2.1 s.2.2) (fun i (s : Int32 × Int32 × Mem) => ∃ M', s = (nI (runC fc (l.take i) []).length, nI i, M') ∧ Wr [p + 9] M M' ∧ stkAt (mI M' (p + 9)) (runC fc (l.take i) [])) (fun M' => Wr [p + 9] M M' ∧ mI M' (p + 9) 0 = f fc) l.length ?_ (s := ((0 : Int32), (0 : Int32), M)) ⟨M, rfl, Wr.rfl', trivial⟩
  · obtain ⟨M', e, hw, hv⟩ := key
    refine ⟨M', ?_, hw⟩
    unfold F_X4_value
    rw [e, ob_t]
    show (aI M' 100 (p + 9) (nI 0)).bind _ = _
    rw [aI_t (wr_tg hw u9) (i := 0) (by omega) (by omega), ob_t, hv]
  · rintro i s hi ⟨M', rfl, hw, hst⟩
    rcases Nat.lt_or_eq_of_le hi with hlt | heq
    · right
      refine ⟨hlt, ?_⟩
      have nc : c ∉ [p + 9] := by simp; omega
      have n8 : p + 8 ∉ [p + 9] := by simp
      obtain ⟨M'', e, hw', hst'⟩ := F_value_step (M := M') (fc := fc) (x := l.getD i 0) (wr_tg hw h1) (wr_mP hw h4) (wr_tg hw h5) h6 hlt (by rw [wr_mI hw nc]; exact h7 i hlt) (wr_tg hw u8) (wr_tg hw u9) (fun j hj => by rw [wr_mI hw n8]; exact hf j hj) hst ((h9 fc).2 i hi) (by rw [← runC_take hlt]; exact (h9 fc).2 (i + 1) hlt)
      rw [← runC_take hlt] at e hst'
      exact ⟨_, e, M'', rfl, hw.trans hw', hst'⟩
    · left
      subst heq
      refine ⟨M', ?_, hw, ?_⟩
      · unfold F_X4_value_s5
        dsimp only
        rw [gP_t (wr_tg hw h1) (wr_mP hw h4), ob_t, alen_t (wr_tg hw h5), ob_t, if_pos (by rw [nI_leI (by omega) (by omega)]; exact Nat.le_refl _)]
      · rw [List.take_length, (h9 fc).1] at hst
        exact hst.1
