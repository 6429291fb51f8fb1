/-! ===== numbers ===== -/
theorem bmI {z : Int} (h1 : -2147483648 ≤ z) (h2 : z < 2147483648) : z.bmod (2 ^ 32) = z := by
  rw [Int.bmod_def]
  omega
theorem ti_add {a b : Int32} (h1 : -2147483648 ≤ a.toInt + b.toInt) (h2 : a.toInt + b.toInt < 2147483648) : (a + b).toInt = a.toInt + b.toInt := by rw [Int32.toInt_add]; exact bmI h1 h2
theorem ti_sub {a b : Int32} (h1 : -2147483648 ≤ a.toInt - b.toInt) (h2 : a.toInt - b.toInt < 2147483648) : (a - b).toInt = a.toInt - b.toInt := by rw [Int32.toInt_sub]; exact bmI h1 h2
theorem ti_mul {a b : Int32} (h1 : -2147483648 ≤ a.toInt * b.toInt) (h2 : a.toInt * b.toInt < 2147483648) : (a * b).toInt = a.toInt * b.toInt := by rw [Int32.toInt_mul]; exact bmI h1 h2
theorem ti_lt {a b : Int32} : a < b ↔ a.toInt < b.toInt := Int32.lt_iff_toInt_lt
theorem ti_le {a b : Int32} : a ≤ b ↔ a.toInt ≤ b.toInt := Int32.le_iff_toInt_le
theorem ti_eq {a b : Int32} : a = b ↔ a.toInt = b.toInt := Int32.toInt_inj.symm
theorem ti_div {a b : Int32} (ha : 0 ≤ a.toInt) (hb : 0 < b.toInt) : (a / b).toInt = a.toInt / b.toInt := by
  have h3 := Int32.toInt_lt a
  rw [Int32.toInt_div, Int.tdiv_eq_ediv_of_nonneg ha]
  have h1 : 0 ≤ a.toInt / b.toInt := Int.ediv_nonneg ha (by omega)
  have h2 : a.toInt / b.toInt ≤ a.toInt := Int.ediv_le_self _ ha
  exact bmI (by omega) (by omega)
theorem nI_div {a b : Nat} (ha : a < 2 ^ 31) (hb : 0 < b) (hb2 : b < 2 ^ 31) : nI a / nI b = nI (a / b) := by
  have h : a / b ≤ a := Nat.div_le_self _ _
  rw [ti_eq, ti_div (by rw [nI_toInt ha]; omega) (by rw [nI_toInt hb2]; omega), nI_toInt ha, nI_toInt hb2, nI_toInt (by omega)]
  rfl
theorem nI_mul {a b : Nat} : nI a * nI b = nI (a * b) := (Int32.ofNat_mul a b).symm
theorem nI_sub {a b : Nat} (h : b ≤ a) : nI a - nI b = nI (a - b) := by
  have e : nI a = nI (a - b) + nI b := by rw [nI_add, Nat.sub_add_cancel h]
  rw [e, Int32.add_sub_cancel]
theorem nI_rem {a b : Nat} (ha : a < 2 ^ 31) (hb : 0 < b) (hb2 : b < 2 ^ 31) : nI a - nI a / nI b * nI b = nI (a % b) := by
  rw [nI_div ha hb hb2, nI_mul, nI_sub (Nat.div_mul_le_self a b)]
  congr 1
  have := Nat.div_add_mod a b
  rw [Nat.mul_comm] at this
  omega
theorem msb_nn {a : Int32} (h : 0 ≤ a.toInt) : a.toBitVec.msb = false := by
  rw [BitVec.msb_eq_toInt]
  exact decide_eq_false (fun z : a.toInt < 0 => by omega)
theorem nn_msb {a : Int32} (h : a.toBitVec.msb = false) : 0 ≤ a.toInt := by
  rw [BitVec.msb_eq_toInt] at h
  have z : ¬ a.toInt < 0 := of_decide_eq_false h
  omega
theorem ti_0 : (0 : Int32).toInt = 0 := rfl
theorem xor_nn {a b : Int32} (ha : 0 ≤ a) (hb : 0 ≤ b) : 0 ≤ a ^^^ b := by
  rw [ti_le, ti_0] at *
  exact nn_msb (by rw [Int32.toBitVec_xor, BitVec.msb_xor, msb_nn ha, msb_nn hb]; rfl)
theorem F_floorMod {a b : Nat} {M : Mem} (ha : a < 2 ^ 31) (hb : 0 < b) (hb2 : b < 2 ^ 31) : F_J9_floorMod_7cf53 (nI a) (nI b) M = some (nI (a % b)) := by
  unfold F_J9_floorMod_7cf53
  rw [if_neg (nI_ne0 hb hb2), if_pos (xor_nn (nI_pos' ha) (nI_pos' hb2)), nI_rem ha hb hb2]
def bnd (x : Int32) (lo hi : Int) : Prop := lo ≤ x.toInt ∧ x.toInt ≤ hi
/-- a number that isn't below 0, as one of ours -/
theorem bnd_nI {x : Int32} {lo hi : Int} (h : bnd x lo hi) (h0 : 0 ≤ lo) : ∃ n : Nat, x = nI n ∧ lo ≤ (n : Int) ∧ (n : Int) ≤ hi ∧ n < 2 ^ 31 := by
  have h1 := Int32.toInt_lt x
  have h2 := h.1
  have h3 := h.2
  refine ⟨x.toInt.toNat, ?_, by omega, by omega, by omega⟩
  rw [ti_eq, nI_toInt (by omega)]
  omega
theorem mxI_toInt {a b : Int32} : (mxI a b).toInt = max a.toInt b.toInt := by
  unfold mxI
  split
  · rename_i h; rw [ti_lt] at h; omega
  · rename_i h; rw [ti_lt] at h; omega
theorem mnI_toInt {a b : Int32} : (mnI a b).toInt = min a.toInt b.toInt := by
  unfold mnI
  split
  · rename_i h; rw [ti_lt] at h; omega
  · rename_i h; rw [ti_lt] at h; omega
-- bits
def bitI (b : Int32) (k : Nat) : Bool := b.toBitVec.getLsbD k
def one (h : Nat) : Int32 := (1 : Int32) <<< (nI h &&& 31)
theorem one_bv (h : Nat) (hh : h < 31) : (one h).toBitVec = BitVec.twoPow 32 h := by
  have : ∀ h, h < 31 → (one h).toBitVec = BitVec.twoPow 32 h := by decide +kernel
  exact this h hh
theorem bit_or1 {b : Int32} {h k : Nat} (hh : h < 31) : bitI (b ||| one h) k = (bitI b k || decide (k = h)) := by
  unfold bitI
  rw [Int32.toBitVec_or, BitVec.getLsbD_or, one_bv h hh, BitVec.getLsbD_twoPow]
  congr 1
  by_cases e : h = k
  · subst e; simp; omega
  · simp [e]; exact fun z => e z.symm
theorem bit_m1 {k : Nat} (hk : k < 32) : bitI (-1) k = true := by
  have : ∀ k, k < 32 → bitI (-1) k = true := by decide +kernel
  exact this k hk
theorem bit_big {b : Int32} {k : Nat} (hk : 32 ≤ k) : bitI b k = false := BitVec.getLsbD_of_ge _ _ hk
theorem bit_0 {k : Nat} : bitI 0 k = false := by unfold bitI; exact BitVec.getLsbD_zero
theorem bit_and {a b : Int32} {k : Nat} : bitI (a &&& b) k = (bitI a k && bitI b k) := by unfold bitI; rw [Int32.toBitVec_and, BitVec.getLsbD_and]
theorem bit_or {a b : Int32} {k : Nat} : bitI (a ||| b) k = (bitI a k || bitI b k) := by unfold bitI; rw [Int32.toBitVec_or, BitVec.getLsbD_or]
theorem bit_xor {a b : Int32} {k : Nat} : bitI (a ^^^ b) k = ((bitI a k) ^^ (bitI b k)) := by unfold bitI; rw [Int32.toBitVec_xor, BitVec.getLsbD_xor]
theorem bit_not {a : Int32} {k : Nat} (hk : k < 32) : bitI (a ^^^ -1) k = !(bitI a k) := by rw [bit_xor, bit_m1 hk]; simp
theorem bit_one {h k : Nat} (hh : h < 31) : bitI (one h) k = decide (k = h) := by
  have := bit_or1 (b := 0) (k := k) hh
  rw [bit_or, bit_0] at this
  simpa using this
theorem bit_ext {a b : Int32} (h : ∀ k, k < 32 → bitI a k = bitI b k) : a = b := Int32.toBitVec_inj.mp (BitVec.eq_of_getLsbD_eq h)
theorem bit_shr {b : Int32} {h : Nat} (hh : h < 31) : ((b >>> (nI h &&& 31)) &&& 1) = if bitI b h then 1 else 0 := by
  have e : ∀ h, h < 31 → ((nI h &&& 31).toBitVec.smod 32#32) = BitVec.ofNat 32 h := by decide +kernel
  refine Int32.toBitVec_inj.mp (BitVec.eq_of_getLsbD_eq fun i hi => ?_)
  rw [Int32.toBitVec_and, BitVec.getLsbD_and]
  have e1 : (b >>> (nI h &&& 31)).toBitVec = b.toBitVec.sshiftRight h := by
    rw [Int32.toBitVec_shiftRight]
    show BitVec.sshiftRight' _ ((nI h &&& 31).toBitVec.smod 32#32) = _
    rw [e h hh]
    unfold BitVec.sshiftRight'
    rw [BitVec.toNat_ofNat, Nat.mod_eq_of_lt (by omega)]
  rw [e1]
  have e2 : (1 : Int32).toBitVec = 1#32 := rfl
  rw [e2, BitVec.getLsbD_one]
  by_cases hi0 : i = 0
  · subst hi0
    rw [BitVec.getLsbD_sshiftRight]
    unfold bitI
    simp [show h < 32 by omega]
    cases b.toBitVec[h]'(by omega) <;> rfl
  · simp only [hi0, decide_false, Bool.and_false]
    have : (1#32).getLsbD i = false := by rw [BitVec.getLsbD_one]; simp [hi0]
    have z0 : (0#32).getLsbD i = false := BitVec.getLsbD_zero
    split
    · exact this.symm
    · exact z0.symm
