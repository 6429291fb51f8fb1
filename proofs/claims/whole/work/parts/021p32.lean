/-! ===== the class: a day ===== -/
theorem nI_nm1 {n : Nat} (h : n < 2 ^ 31) : nI n ≠ -1 := fun e => by
  have := congrArg Int32.toInt e
  rw [nI_toInt h] at this
  have e1 : (-1 : Int32).toInt = -1 := by decide
  omega
theorem hOf_none {w : Nat → Int32} {p n : Nat} (h : ∀ k, k < n → w k ≠ nI p) : hOf w p n = -1 := by
  induction n with
  | zero => rfl
  | succ n ih =>
    unfold hOf
    rw [ih fun k hk => h k (by omega)]
    simp [h n (by omega)]
theorem hOf_some {w : Nat → Int32} {p n k : Nat} (hk : k < n) (hn : n < 2 ^ 31) (h : w k = nI p) (hu : ∀ j, j < n → w j = nI p → j = k) : hOf w p n = nI k := by
  induction n with
  | zero => omega
  | succ n ih =>
    unfold hOf
    by_cases e : k = n
    · subst e
      rw [hOf_none fun j hj z => by have := hu j (by omega) z; omega]
      simp [h]
    · rw [ih (by omega) (by omega) fun j hj z => hu j (by omega) z]
      rw [if_pos (nI_nm1 (by omega))]
theorem hOf_congr {w w' : Nat → Int32} {p n : Nat} (h : ∀ k, k < n → (w' k = nI p ↔ w k = nI p)) : hOf w' p n = hOf w p n := by
  induction n with
  | zero => rfl
  | succ n ih =>
    unfold hOf
    rw [ih fun k hk => h k (by omega)]
    simp only [h n (by omega)]
theorem hOf_cases {w : Nat → Int32} {p n : Nat} : (hOf w p n = -1 ∧ ∀ k, k < n → w k ≠ nI p) ∨ ∃ k, k < n ∧ hOf w p n = nI k ∧ w k = nI p := by
  induction n with
  | zero => exact Or.inl ⟨rfl, fun k hk => by omega⟩
  | succ n ih =>
    rcases ih with ⟨h1, h2⟩ | ⟨k, h1, h2, h3⟩
    · by_cases e : w n = nI p
      · right
        refine ⟨n, by omega, ?_, e⟩
        unfold hOf
        rw [h1]; simp [e]
      · left
        refine ⟨?_, fun k hk => ?_⟩
        · unfold hOf; rw [h1]; simp [e]
        · by_cases z : k = n
          · subst z; exact e
          · exact h2 k (by omega)
    · by_cases z : hOf w p n = -1
      · by_cases e : w n = nI p
        · exact Or.inr ⟨n, by omega, by unfold hOf; rw [z]; simp [e], e⟩
        · right
          refine ⟨k, by omega, ?_, h3⟩
          unfold hOf
          rw [z]; simp [e]
          rw [← z, h2]
      · exact Or.inr ⟨k, by omega, by unfold hOf; rw [if_pos z]; exact h2, h3⟩
/-- who is in a house is a person in no other -/
theorem GdS.who {B : Int} {g : Pg} {s : Sg} {h : Nat} (hd : GdS B g s) (hh : h < gH g) (hw : sWho s h ≠ -1) : ∃ q, q < gN g ∧ sWho s h = nI q ∧ ∀ k, k < gH g → sWho s k = nI q → k = h := by
  obtain ⟨-, -, h1, -, h2, -, -⟩ := hd
  rcases (h1 h hh).2.2 with z | ⟨q, hq, e⟩
  · exact absurd z hw
  · exact ⟨q, hq, e, fun k hk ek => (h2 h k hh hk (e.trans ek.symm) hw).symm⟩
theorem GdP.h8 {g : Pg} {h : Nat} (hg : GdP g) (hh : h < gH g) : h < 8 := Nat.lt_of_lt_of_le hh hg.1
theorem GdP.p8 {g : Pg} {h : Nat} (hg : GdP g) (hh : h < gN g) : h < 8 := Nat.lt_of_lt_of_le hh hg.2.1
theorem F_dampOn {M : Mem} {p : Nat} {g : Pg} {d : Int32} (hv : PlV M p g) (hd : 0 ≤ d.toInt) : F_X2_dampOn p d M = some (toldD g d) := by
  obtain ⟨⟨u0, ⟨u1, r1⟩, ⟨u2, r2⟩, ⟨u3, r3⟩, ⟨u4, r4⟩, ⟨u5, r5⟩, ⟨u6, r6⟩, ⟨u7, r7⟩, ⟨u8, r8⟩, ⟨u9, r9⟩⟩, hg, v3, v4, v5, v6, v7, v8, v9, v10⟩ := hv
  obtain ⟨k, rfl, -, -, hk⟩ := bnd_nI (x := d) (lo := 0) (hi := 2147483648) ⟨hd, by have := Int32.toInt_lt d; omega⟩ (by omega)
  have hD := hg.2.2.1
  unfold F_X2_dampOn toldD
  simp only [gI_t u0, ob_t, v5, gP_t u0 r7]
  by_cases e : gD g = 0
  · rw [e]; simp [nI_0]
  · rw [if_neg (nI_nle (by omega) (by omega)), if_neg e, F_floorMod hk (by omega) (by omega), ob_t]
    have hm : k % gD g < gD g := Nat.mod_lt _ (by omega)
    rw [aI_t u7 (i := k % gD g) (by omega) (by omega), ob_t, v8 _ hm, nI_clamp hk]
theorem F_dampOf {M : Mem} {p a : Nat} {g : Pg} {s : Sg} {B : Int} (hv : PlV M p g) (hs : StV M a g s) (hd : GdS B g s) : F_X2_dampOf p a M = some (dampS g s) := by
  unfold F_X2_dampOf dampS
  rw [gI_t hs.1.1, ob_t, hs.2.2.1, gI_t hs.1.1, ob_t, hs.2.1, ckO_t hv.1.1, F_dampOn hv hd.1.1, ob_t]
  split <;> rfl
theorem F_isBurst {M : Mem} {a h : Nat} {g : Pg} {s : Sg} (hs : StV M a g s) (hh : h < 31) : F_X6_isBurst a (nI h) M = some (if bitI (sBur s) h then 1 else 0) := by
  unfold F_X6_isBurst
  rw [gI_t hs.1.1, ob_t, hs.2.2.2.1, bit_shr hh]
  cases bitI (sBur s) h <;> rfl
/-- the cells that a day of the state at a may write -/
def WL (p a : Nat) : List Nat := [a, a + 1, a + 2, a + 3, a + 4, a + 5, a + 6, p + 8, p + 9]
theorem WL_in {p a k : Nat} (h : k ∈ WL p a) (hs : p + 10 ≤ a) (ha : a + 7 ≤ NC) : k < NC ∧ (k < p ∨ p + 8 ≤ k) := by
  unfold WL at h
  simp only [List.mem_cons, List.not_mem_nil, or_false] at h
  omega
theorem F_leave {M : Mem} {p a h q : Nat} {g : Pg} {s : Sg} (hs : StV M a g s) (hg : GdP g) (hh : h < gH g) (hq : q < gN g) (hw : sWho s h = nI q) (hu : ∀ k, k < gH g → sWho s k = nI q → k = h) : ∃ M', F_X6_leave a (nI q) M = some M' ∧ StV M' a g (sDay s, sWet s, sBur s, sSiz s, sWor s, upg (sWho s) h (-1), sHee s, sSor s) ∧ Wr [a + 3, a + 5] M M' := by
  obtain ⟨⟨t0, ⟨t1, q1⟩, ⟨t2, q2⟩, ⟨t3, q3⟩, ⟨t4, q4⟩, ⟨t5, q5⟩, ⟨t6, q6⟩⟩, h2, h3, h4, h5, h6⟩ := hs
  have h8 := hg.h8 hh
  have p8 := hg.p8 hq
  have ew : wheS g s q = nI h := hOf_some hh (by have := hg.1; omega) hw hu
  unfold F_X6_leave
  rw [gP_t t0 q5, ob_t, aI_t t5 p8 (by omega), ob_t, (h6 q hq).2.1, ew, if_neg (nI_nm1 (by omega)), gP_t t0 q3, ob_t, sI_t t3 h8 (by omega), ob_t, gP_st, gP_t t0 q5, ob_t, sI_t (M := stI M (a + 3) h (-1)) t5 p8 (by omega), ob_t]
  refine ⟨_, rfl, ⟨⟨t0, ⟨t1, q1⟩, ⟨t2, q2⟩, ⟨t3, q3⟩, ⟨t4, q4⟩, ⟨t5, q5⟩, ⟨t6, q6⟩⟩, ?_, ?_, ?_, fun k hk => ⟨?_, ?_, ?_⟩, fun k hk => ⟨?_, ?_, ?_⟩⟩, (Wr.rfl'.st (by simp)).st (by simp)⟩
  · rw [mI_stne (by omega), mI_stne (by omega)]; exact h2
  · rw [mI_stne (by omega), mI_stne (by omega)]; exact h3
  · rw [mI_stne (by omega), mI_stne (by omega)]; exact h4
  · rw [mI_stne (by omega), mI_stne (by omega)]; exact (h5 k hk).1
  · rw [mI_stne (by omega), mI_stne (by omega)]; exact (h5 k hk).2.1
  · rw [mI_stne (by omega), mI_steq]
    show upg _ h (-1) k = upg (sWho s) h (-1) k
    unfold upg
    rw [(h5 k hk).2.2]
  · rw [mI_stne (by omega), mI_stne (by omega)]; exact (h6 k hk).1
  · rw [mI_steq, mI_stne (by omega)]
    show upg _ q (-1) k = hOf (upg (sWho s) h (-1)) k (gH g)
    by_cases e : k = q
    · subst e
      rw [upg_eq, hOf_none]
      intro j hj z
      unfold upg at z
      split at z
      · exact nI_nm1 (by omega) z.symm
      · rename_i e; exact e (hu j hj z)
    · rw [upg_ne e, (h6 k hk).2.1]
      refine (hOf_congr fun j hj => ?_).symm
      have k8 := hg.p8 hk
      unfold upg
      split
      · rename_i e'; subst e'
        rw [hw]
        exact ⟨fun z => absurd z.symm (nI_nm1 (by omega)), fun z => absurd ((nI_eq (by omega) (by omega)).mp z) fun y => e y.symm⟩
      · exact Iff.rfl
  · rw [mI_stne (by omega), mI_stne (by omega)]; exact (h6 k hk).2.2
