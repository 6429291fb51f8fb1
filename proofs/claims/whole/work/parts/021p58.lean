/-! ===== bests, bits, draws ===== -/
def bsP (up : Int32 → Int32 → Bool) (ok : Nat → Bool) (key : Nat → Int32) (v0 : Int32) : Nat → Int32 × Int32 := itN (fun i a => if ok i && up a.2 (key i) then (nI i, key i) else a) (-1, v0)
def bsM (up : Int32 → Int32 → Bool) (ok : Nat → Bool) (key : Nat → Int32) : Nat → Int32 := itN (fun i b => if ok i && (decide (b = -1) || up (key b.toNatClampNeg) (key i)) then nI i else b) (-1)
theorem bsP_case {up : Int32 → Int32 → Bool} {ok : Nat → Bool} {key : Nat → Int32} {v0 : Int32} (n : Nat) : ((bsP up ok key v0 n).1 = -1 ∧ (bsP up ok key v0 n).2 = v0) ∨ ∃ k, k < n ∧ ok k = true ∧ (bsP up ok key v0 n).1 = nI k ∧ (bsP up ok key v0 n).2 = key k := by
  induction n with
  | zero => exact Or.inl ⟨rfl, rfl⟩
  | succ n ih =>
    show (((if ok n && up (bsP up ok key v0 n).2 (key n) then (nI n, key n) else bsP up ok key v0 n) : Int32 × Int32).1 = -1 ∧ _ = v0) ∨ ∃ k, k < n + 1 ∧ ok k = true ∧ ((if ok n && up (bsP up ok key v0 n).2 (key n) then (nI n, key n) else bsP up ok key v0 n) : Int32 × Int32).1 = nI k ∧ ((if ok n && up (bsP up ok key v0 n).2 (key n) then (nI n, key n) else bsP up ok key v0 n) : Int32 × Int32).2 = key k
    by_cases c : (ok n && up (bsP up ok key v0 n).2 (key n)) = true
    · rw [if_pos c]
      right
      exact ⟨n, by omega, by simp at c; exact c.1, rfl, rfl⟩
    · rw [if_neg c]
      rcases ih with h | ⟨k, h1, h2⟩
      · left
        refine ⟨h.1, ?_⟩
        show ((if ok n && up (bsP up ok key v0 n).2 (key n) then (nI n, key n) else bsP up ok key v0 n) : Int32 × Int32).2 = v0
        rw [if_neg c]; exact h.2
      · exact Or.inr ⟨k, by omega, h2⟩
theorem bs_eq {up : Int32 → Int32 → Bool} {ok : Nat → Bool} {key : Nat → Int32} {v0 : Int32} (n : Nat) (hn : n < 2 ^ 31) (h0 : ∀ i, i < n → ok i = true → up v0 (key i) = true) : bsM up ok key n = (bsP up ok key v0 n).1 := by
  induction n with
  | zero => rfl
  | succ n ih =>
    have ih := ih (by omega) fun i hi => h0 i (by omega)
    show (if ok n && (decide (bsM up ok key n = -1) || up (key (bsM up ok key n).toNatClampNeg) (key n)) then nI n else bsM up ok key n) = ((if ok n && up (bsP up ok key v0 n).2 (key n) then (nI n, key n) else bsP up ok key v0 n) : Int32 × Int32).1
    have e : (ok n && (decide (bsM up ok key n = -1) || up (key (bsM up ok key n).toNatClampNeg) (key n))) = (ok n && up (bsP up ok key v0 n).2 (key n)) := by
      cases ho : ok n
      · rfl
      · rcases bsP_case (up := up) (ok := ok) (key := key) (v0 := v0) n with ⟨h1, h2⟩ | ⟨k, h1, h2, h3, h4⟩
        · rw [ih, h1, h2, h0 n (by omega) ho]; simp
        · rw [ih, h3, h4, nI_clamp (by omega)]
          have : decide (nI k = -1) = false := decide_eq_false (nI_nm1 (by omega))
          rw [this]; simp
    rw [e]
    split
    · rfl
    · exact ih
/-- a search of the best, with the best one alone -/
theorem loop_bsM {σ ρ : Type} {step : σ → Option (σ ⊕ ρ)} (mk : Nat → Int32 → Mem → σ) (r : Int32 → Mem → ρ) (up : Int32 → Int32 → Bool) (ok : Nat → Bool) (key : Nat → Int32) (n : Nat) (I : Mem → Prop) {M : Mem} (h0 : I M) (hn : n < 2 ^ 31)
    (h1 : ∀ i b M, i < n → I M → ok i = false → ∃ M', step (mk i b M) = some (.inl (mk (i + 1) b M')) ∧ I M')
    (h2 : ∀ i M, i < n → I M → ok i = true → ∃ M', step (mk i (-1) M) = some (.inl (mk (i + 1) (nI i) M')) ∧ I M')
    (h3 : ∀ i k M, i < n → k < i → I M → ok i = true → ∃ M', step (mk i (nI k) M) = some (.inl (mk (i + 1) (if up (key k) (key i) = true then nI i else nI k) M')) ∧ I M')
    (he : ∀ b M, I M → step (mk n b M) = some (.inr (r b M))) : ∃ M', loop step (mk 0 (-1) M) = some (r (bsM up ok key n) M') ∧ I M' := by
  obtain ⟨M', e, hI, -⟩ := loop_q (step := step) mk r (fun i b => if ok i && (decide (b = -1) || up (key b.toNatClampNeg) (key i)) then nI i else b) (-1) n (fun i M => I M ∧ (bsM up ok key i = -1 ∨ ∃ k, k < i ∧ bsM up ok key i = nI k)) (M := M) ⟨h0, Or.inl rfl⟩ (by
    rintro i M hi ⟨hI, hb⟩
    change ∃ M', step (mk i (bsM up ok key i) M) = some (.inl (mk (i + 1) (if ok i && (decide (bsM up ok key i = -1) || up (key (bsM up ok key i).toNatClampNeg) (key i)) then nI i else bsM up ok key i) M')) ∧ I M' ∧ ((if ok i && (decide (bsM up ok key i = -1) || up (key (bsM up ok key i).toNatClampNeg) (key i)) then nI i else bsM up ok key i) = -1 ∨ ∃ k, k < i + 1 ∧ (if ok i && (decide (bsM up ok key i = -1) || up (key (bsM up ok key i).toNatClampNeg) (key i)) then nI i else bsM up ok key i) = nI k)
    generalize bsM up ok key i = b at hb
    have fin : ∀ x : Int32, (x = nI i ∨ x = b) → (x = -1 ∨ ∃ k, k < i + 1 ∧ x = nI k) := by
      rintro x (rfl | rfl)
      · exact Or.inr ⟨i, by omega, rfl⟩
      · rcases hb with z | ⟨k, z1, z2⟩
        · exact Or.inl z
        · exact Or.inr ⟨k, by omega, z2⟩
    cases ho : ok i
    · obtain ⟨M', e, h⟩ := h1 i b M hi hI ho
      refine ⟨M', ?_, h, ?_⟩
      · rw [e]; simp
      · exact fin _ (Or.inr (by simp))
    · rcases hb with z | ⟨k, z1, z2⟩
      · subst z
        obtain ⟨M', e, h⟩ := h2 i M hi hI ho
        exact ⟨M', by rw [e]; simp, h, fin _ (Or.inl (by simp))⟩
      · subst z2
        obtain ⟨M', e, h⟩ := h3 i k M hi z1 hI ho
        have n1 : decide (nI k = -1) = false := decide_eq_false (nI_nm1 (by omega))
        rw [nI_clamp (by omega), n1]
        refine ⟨M', by rw [e]; simp, h, fin _ ?_⟩
        simp only [Bool.true_and, Bool.false_or]
        split
        · exact Or.inl rfl
        · exact Or.inr rfl) (fun M h => he _ M h.1)
  exact ⟨M', e, hI⟩
def upX (v k : Int32) : Bool := !decide (k ≤ v)
def upN (v k : Int32) : Bool := !decide (v ≤ k)
theorem le_nlt {a b : Int32} : ¬ a ≤ b ↔ b < a := by rw [ti_le, ti_lt]; omega
-- bits of a row
theorem bits_row {P : Nat → Prop} {f : Nat → Int32 → Int32} {n : Nat} (hn : n ≤ 31) (h1 : ∀ i a, i < n → P i → f i a = a ||| one i) (h2 : ∀ i a, i < n → ¬ P i → f i a = a) (k : Nat) : bitI (itN f 0 n) k = true ↔ k < n ∧ P k := by
  induction n with
  | zero => rw [show itN f 0 0 = 0 from rfl, bit_0]; simp
  | succ n ih =>
    have ih := ih (by omega) (fun i a hi => h1 i a (by omega)) (fun i a hi => h2 i a (by omega))
    show bitI (f n (itN f 0 n)) k = true ↔ _
    by_cases c : P n
    · rw [h1 n _ (by omega) c, bit_or1 (by omega), Bool.or_eq_true, ih, decide_eq_true_iff]
      constructor
      · rintro (z | z)
        · exact ⟨by omega, z.2⟩
        · exact ⟨by omega, by rw [z]; exact c⟩
      · intro z
        by_cases e : k = n
        · exact Or.inr e
        · exact Or.inl ⟨by omega, z.2⟩
    · rw [h2 n _ (by omega) c, ih]
      constructor
      · intro z; exact ⟨by omega, z.2⟩
      · intro z
        refine ⟨?_, z.2⟩
        by_cases e : k = n
        · subst e; exact absurd z.2 c
        · omega
theorem bits_idx {P : Nat → Prop} {w : Nat → Nat} {f : Nat → Int32 → Int32} {n : Nat} (hw : ∀ i, i < n → P i → w i < 31) (h1 : ∀ i a, i < n → P i → f i a = a ||| one (w i)) (h2 : ∀ i a, i < n → ¬ P i → f i a = a) (k : Nat) : bitI (itN f 0 n) k = true ↔ ∃ i, i < n ∧ P i ∧ w i = k := by
  induction n with
  | zero => rw [show itN f 0 0 = 0 from rfl, bit_0]; simp
  | succ n ih =>
    have ih := ih (fun i hi => hw i (by omega)) (fun i a hi => h1 i a (by omega)) (fun i a hi => h2 i a (by omega))
    show bitI (f n (itN f 0 n)) k = true ↔ _
    by_cases c : P n
    · rw [h1 n _ (by omega) c, bit_or1 (hw n (by omega) c), Bool.or_eq_true, ih, decide_eq_true_iff]
      constructor
      · rintro (⟨i, z1, z2⟩ | z)
        · exact ⟨i, by omega, z2⟩
        · exact ⟨n, by omega, c, z.symm⟩
      · rintro ⟨i, z1, z2, z3⟩
        by_cases e : i = n
        · subst e; exact Or.inr z3.symm
        · exact Or.inl ⟨i, by omega, z2, z3⟩
    · rw [h2 n _ (by omega) c, ih]
      constructor
      · rintro ⟨i, z1, z2⟩; exact ⟨i, by omega, z2⟩
      · rintro ⟨i, z1, z2, z3⟩
        by_cases e : i = n
        · subst e; exact absurd z2 c
        · exact ⟨i, by omega, z2, z3⟩
theorem bit_eqT {a b : Int32} (h : ∀ k, bitI a k = true ↔ bitI b k = true) : a = b := bit_ext fun k _ => by
  cases ha : bitI a k <;> cases hb : bitI b k
  · rfl
  · have := (h k).mpr hb; rw [ha] at this; cases this
  · have := (h k).mp ha; rw [hb] at this; cases this
  · rfl
theorem bits8 {b : Int32} (h : ∀ k, 8 ≤ k → bitI b k = false) : ∃ n, n < 256 ∧ b = nI n := by
  refine ⟨b.toBitVec.toNat, ?_, ?_⟩
  · have e : b.toBitVec = b.toBitVec &&& 255#32 := by
      refine BitVec.eq_of_getLsbD_eq fun i hi => ?_
      rw [BitVec.getLsbD_and]
      have m : ∀ i, i < 8 → (255#32).getLsbD i = true := by decide
      by_cases c : i < 8
      · rw [m i c]; simp
      · have := h i (by omega)
        unfold bitI at this
        rw [this]; simp
    rw [e, BitVec.toNat_and]
    have : b.toBitVec.toNat &&& (255#32).toNat ≤ (255#32).toNat := Nat.and_le_right
    have e2 : (255#32).toNat = 255 := by decide
    omega
  · refine Int32.toBitVec_inj.mp ?_
    show b.toBitVec = BitVec.ofNat 32 _
    rw [BitVec.ofNat_toNat]; simp
theorem whe_iff {g : Pg} {s : Sg} {D : Int} {u h : Nat} (hg : GdP g) (hd : GdS D g s) (hh : h < gH g) (hu : u < 2 ^ 31) : wheS g s u = nI h ↔ sWho s h = nI u := by
  have g1 := hg.1
  constructor
  · intro e
    rcases hOf_cases (w := sWho s) (p := u) (n := gH g) with ⟨h1, -⟩ | ⟨k, h1, h2, h3⟩
    · exact absurd (e.symm.trans h1) (nI_nm1 (by omega))
    · have : nI k = nI h := h2.symm.trans e
      rw [nI_eq (by omega) (by omega)] at this
      subst this; exact h3
  · intro e
    refine hOf_some hh (by omega) e fun j hj z => ?_
    exact hd.2.2.2.2.1 j h hj hh (z.trans e.symm) (by rw [z]; exact nI_nm1 hu)
theorem abI_off {a b : Int32} (h : -1000000 ≤ a.toInt ∧ a.toInt ≤ 1000000) (h2 : -1000000 ≤ b.toInt ∧ b.toInt ≤ 1000000) {M : Mem} : F_X9_off a b M = some (abI (a - b)) := by
  unfold F_X9_off abI
  have e1 : (a - b).toInt = a.toInt - b.toInt := ti_sub (by omega) (by omega)
  have e2 : (b - a).toInt = b.toInt - a.toInt := ti_sub (by omega) (by omega)
  by_cases c : b ≤ a
  · rw [if_pos c, if_pos]
    rw [ti_le, ti_0, e1]; rw [ti_le] at c; omega
  · rw [if_neg c, if_neg]
    · congr 1
      rw [ti_eq, e2, ti_sub (by rw [ti_0, e1]; omega) (by rw [ti_0, e1]; omega), ti_0, e1]; omega
    · rw [ti_le, ti_0, e1]; rw [ti_le] at c; omega
theorem abI_toInt {a : Int32} (h : -1000000 ≤ a.toInt) : (abI a).toInt = (a.toInt).natAbs := by
  have hx := Int32.toInt_lt a
  unfold abI
  split
  · rename_i c; rw [ti_le, ti_0] at c; omega
  · rename_i c; rw [ti_le, ti_0] at c
    rw [ti_sub (by rw [ti_0]; omega) (by rw [ti_0]; omega), ti_0]; omega
/-- how many bits -/
def popS (b : Int32) : Int32 := itN (fun k n => n + ((b >>> (nI k &&& 31)) &&& 1)) 0 8
theorem F_bits {b : Int32} {M : Mem} : F_X9_bits b M = some (popS b) := by
  unfold F_X9_bits
  have e := loop_p (step := fun z : Int32 × Int32 => F_X9_bits_s4 b M z.1 z.2) (fun i a => (a, nI i)) (fun k n => n + ((b >>> (nI k &&& 31)) &&& 1)) 0 8 (r := popS b) (by
    intro i hi
    unfold F_X9_bits_s4
    simp only [if_neg (show ¬ (8 : Int32) ≤ nI i from nI_ge (b := 8) hi (by omega)), nm_t, nI_1]) (by
    unfold F_X9_bits_s4
    simp only [if_pos (show (8 : Int32) ≤ nI 8 from nI_le (a := 8) (Nat.le_refl _) (by omega))]
    rfl)
  rw [show ((0 : Int32), (0 : Int32)) = ((0 : Int32), nI 0) from rfl, e, ob_t]
def popC (l0 : Int32) : Int32 :=
  let n1 := (l0 - (((l0).toUInt32 >>> (((1 : Int32)).toUInt32 &&& Int32.toUInt32 31)).toInt32 &&& (1431655765 : Int32)))
  let n3 := ((n1 &&& (858993459 : Int32)) + (((n1).toUInt32 >>> (((2 : Int32)).toUInt32 &&& Int32.toUInt32 31)).toInt32 &&& (858993459 : Int32)))
  let n5 := ((n3 + ((n3).toUInt32 >>> (((4 : Int32)).toUInt32 &&& Int32.toUInt32 31)).toInt32) &&& (252645135 : Int32))
  let n7 := (n5 + ((n5).toUInt32 >>> (((8 : Int32)).toUInt32 &&& Int32.toUInt32 31)).toInt32)
  let n9 := (n7 + ((n7).toUInt32 >>> (((16 : Int32)).toUInt32 &&& Int32.toUInt32 31)).toInt32)
  n9 &&& (63 : Int32)
set_option maxRecDepth 10000 in
theorem pop_eq : ∀ n, n < 256 → popC (nI n) = popS (nI n) := by decide +kernel
theorem F_bitC {b : Int32} {M : Mem} (h : ∀ k, 8 ≤ k → bitI b k = false) : F_J6_bitCount_0f7a4 b M = some (popS b) := by
  obtain ⟨n, hn, rfl⟩ := bits8 h
  rw [← pop_eq n hn]; rfl
/-- a draw's bits -/
def drw (x : Int32) : Int32 := (x >>> ((16 : Int32) &&& 31)) &&& 32767
theorem drw_u {x : Int32} : ((x).toUInt32 >>> (((16 : Int32)).toUInt32 &&& Int32.toUInt32 31)).toInt32 &&& (32767 : Int32) = drw x := by
  refine Int32.toBitVec_inj.mp (BitVec.eq_of_getLsbD_eq fun i hi => ?_)
  unfold drw
  rw [Int32.toBitVec_and, Int32.toBitVec_and, BitVec.getLsbD_and, BitVec.getLsbD_and]
  have m : ∀ i, i < 32 → 15 ≤ i → ((32767 : Int32).toBitVec).getLsbD i = false := by decide +kernel
  by_cases c : 15 ≤ i
  · rw [m i hi c]; simp
  · have e1 : (x >>> ((16 : Int32) &&& 31)).toBitVec = x.toBitVec.sshiftRight 16 := by
      rw [Int32.toBitVec_shiftRight]
      show BitVec.sshiftRight' _ (((16 : Int32) &&& 31).toBitVec.smod 32#32) = _
      rw [show (((16 : Int32) &&& 31).toBitVec.smod 32#32) = 16#32 by decide +kernel]
      rfl
    have e2 : (((x).toUInt32 >>> (((16 : Int32)).toUInt32 &&& Int32.toUInt32 31)).toInt32).toBitVec = x.toBitVec >>> 16 := by
      show ((x).toUInt32 >>> (((16 : Int32)).toUInt32 &&& Int32.toUInt32 31)).toBitVec = _
      rw [UInt32.toBitVec_shiftRight]
      rfl
    rw [e1, e2, BitVec.getLsbD_sshiftRight, BitVec.getLsbD_ushiftRight]
    rw [if_pos (show 16 + i < 32 by omega)]
    simp [show ¬ 32 ≤ i by omega]
theorem drw_bnd {x : Int32} : ∃ n, n < 32768 ∧ drw x = nI n := by
  refine ⟨(drw x).toBitVec.toNat, ?_, ?_⟩
  · unfold drw
    rw [Int32.toBitVec_and, BitVec.toNat_and]
    have : ((x >>> ((16 : Int32) &&& 31)).toBitVec.toNat &&& ((32767 : Int32).toBitVec).toNat) ≤ ((32767 : Int32).toBitVec).toNat := Nat.and_le_right
    have e2 : ((32767 : Int32).toBitVec).toNat = 32767 := by decide
    omega
  · refine Int32.toBitVec_inj.mp ?_
    show (drw x).toBitVec = BitVec.ofNat 32 _
    rw [BitVec.ofNat_toNat]; simp
def drN (x : Int32) (n : Nat) : Nat := (drw x).toNatClampNeg % n
theorem drw_rem {x : Int32} {n : Nat} (h0 : 0 < n) (hn : n < 2 ^ 31) : drw x - drw x / nI n * nI n = nI (drN x n) := by
  obtain ⟨k, hk, e⟩ := drw_bnd (x := x)
  unfold drN
  rw [e, nI_rem (by omega) h0 hn, nI_clamp (by omega)]
