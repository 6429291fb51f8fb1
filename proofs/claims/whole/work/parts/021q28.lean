/-! ===== the bits of a long ===== -/
section
def mk8 (c : Nat) : Nat → Nat
  | 0 => 0
  | k + 1 => 256 * mk8 c k + c
theorem and8 {a b c d : Nat} (hb : b < 256) (hd : d < 256) : (256 * a + b) &&& (256 * c + d) = 256 * (a &&& c) + (b &&& d) := by
  have e1 : ((256 * a + b) &&& (256 * c + d)) / 2 ^ 8 = a &&& c := by
    rw [Nat.and_div_two_pow]
    congr 1 <;> omega
  have e2 : ((256 * a + b) &&& (256 * c + d)) % 2 ^ 8 = b &&& d := by
    rw [Nat.and_mod_two_pow]
    congr 1 <;> omega
  omega
def t1 (r : Nat) : Nat := r - ((r / 2) &&& 85)
def t2 (r : Nat) : Nat := (r &&& 51) + ((r / 4) &&& 51)
def t3 (r : Nat) : Nat := r % 16 + r / 16
theorem tb_1 : ∀ r, r < 256 → ∀ q, q < 2 → (128 * q + r / 2) &&& 85 = (r / 2) &&& 85 ∧ ((r / 2) &&& 85) ≤ r := by decide +kernel
theorem tb_2 : ∀ r, r < 256 → ∀ q, q < 4 → (64 * q + r / 4) &&& 51 = (r / 4) &&& 51 := by decide +kernel
theorem tb_3 : ∀ r, r < 256 → t1 r < 256 ∧ t2 (t1 r) % 16 ≤ 4 ∧ t2 (t1 r) / 16 ≤ 4 ∧ t3 (t2 (t1 r)) = cnt (fun i => r.testBit i) 8 := by decide +kernel
theorem tb_4 : ∀ x, x < 256 → x &&& 15 = x % 16 := by decide +kernel
def s1 (k x : Nat) : Nat := x - ((x / 2) &&& mk8 85 k)
def s2 (k x : Nat) : Nat := (x &&& mk8 51 k) + ((x / 4) &&& mk8 51 k)
def s3 (k x : Nat) : Nat := (x + x / 16) &&& mk8 15 k
theorem s1_le (k : Nat) : ∀ x, (x / 2) &&& mk8 85 k ≤ x := fun x => Nat.le_trans Nat.and_le_left (Nat.div_le_self _ _)
theorem s1_s {k q r : Nat} (hr : r < 256) : s1 (k + 1) (256 * q + r) = 256 * s1 k q + t1 r := by
  have tb := tb_1 r hr (q % 2) (Nat.mod_lt _ (by omega))
  have e : (256 * q + r) / 2 = 256 * (q / 2) + (128 * (q % 2) + r / 2) := by omega
  have le := s1_le k q
  unfold s1 t1
  rw [show mk8 85 (k + 1) = 256 * mk8 85 k + 85 from rfl, e, and8 (by omega) (by omega), tb.1]
  omega
theorem s2_s {k q r : Nat} (hr : r < 256) : s2 (k + 1) (256 * q + r) = 256 * s2 k q + t2 r := by
  have tb := tb_2 r hr (q % 4) (Nat.mod_lt _ (by omega))
  have e : (256 * q + r) / 4 = 256 * (q / 4) + (64 * (q % 4) + r / 4) := by omega
  unfold s2 t2
  rw [show mk8 51 (k + 1) = 256 * mk8 51 k + 51 from rfl, e, and8 hr (by omega), and8 (by omega) (by omega), tb]
  omega
theorem s3_s {k q r : Nat} (h1 : r % 16 ≤ 4) (h2 : r / 16 ≤ 4) (h3 : q % 16 ≤ 4) : s3 (k + 1) (256 * q + r) = 256 * s3 k q + t3 r := by
  have e : 256 * q + r + (256 * q + r) / 16 = 256 * (q + q / 16) + (16 * (q % 16) + r + r / 16) := by omega
  have := tb_4 (16 * (q % 16) + r + r / 16) (by omega)
  unfold s3 t3
  rw [show mk8 15 (k + 1) = 256 * mk8 15 k + 15 from rfl, e, and8 (by omega) (by omega), this]
  omega
theorem nib_s {k : Nat} : ∀ x, x < 256 ^ k → s2 k (s1 k x) % 16 ≤ 4 := by
  cases k with
  | zero => intro x hx; have : x = 0 := by simpa using hx
            subst this; decide
  | succ k =>
    intro x hx
    have e : x = 256 * (x / 256) + x % 256 := by omega
    have tb := tb_3 (x % 256) (by omega)
    rw [e, s1_s (by omega), s2_s tb.1]
    omega
theorem cnt_add {f : Nat → Bool} (n : Nat) : ∀ k, cnt f (n + k) = cnt f n + cnt (fun i => f (n + i)) k := by
  intro k
  induction k with
  | zero => rfl
  | succ k ih =>
    show (if f (n + k) = true then cnt f (n + k) + 1 else cnt f (n + k)) = cnt f n + (if f (n + k) = true then cnt (fun i => f (n + i)) k + 1 else cnt (fun i => f (n + i)) k)
    rw [ih]; split <;> omega
theorem cnt_c {f f' : Nat → Bool} : ∀ n, (∀ i, i < n → f i = f' i) → cnt f n = cnt f' n := by
  intro n
  induction n with
  | zero => intro _; rfl
  | succ n ih =>
    intro h
    show (if f n = true then cnt f n + 1 else cnt f n) = (if f' n = true then cnt f' n + 1 else cnt f' n)
    rw [ih fun i hi => h i (by omega), h n (by omega)]
/-- bytes -/
def bys (x : Nat) : Nat → Nat
  | 0 => 0
  | k + 1 => 256 * bys (x / 256) k + cnt (fun i => (x % 256).testBit i) 8
theorem sw_b : ∀ k x, x < 256 ^ k → s3 k (s2 k (s1 k x)) = bys x k := by
  intro k
  induction k with
  | zero => intro x hx; have : x = 0 := by simpa using hx
            subst this; rfl
  | succ k ih =>
    intro x hx
    have hq : x / 256 < 256 ^ k := by rw [Nat.pow_succ] at hx; omega
    have e : x = 256 * (x / 256) + x % 256 := by omega
    have tb := tb_3 (x % 256) (by omega)
    have nb := nib_s (x / 256) hq
    have : s3 (k + 1) (s2 (k + 1) (s1 (k + 1) (256 * (x / 256) + x % 256))) = bys x (k + 1) := by
      rw [s1_s (by omega), s2_s tb.1, s3_s tb.2.1 tb.2.2.1 nb, ih _ hq, tb.2.2.2]; rfl
    rw [← e] at this; exact this
def bsm (x : Nat) : Nat → Nat
  | 0 => 0
  | k + 1 => cnt (fun i => (x % 256).testBit i) 8 + bsm (x / 256) k
theorem cnt_b : ∀ k x, cnt (fun i => x.testBit i) (8 * k) = bsm x k := by
  intro k
  induction k with
  | zero => intro x; rfl
  | succ k ih =>
    intro x
    rw [show 8 * (k + 1) = 8 + 8 * k by omega, cnt_add]
    show _ = cnt (fun i => (x % 256).testBit i) 8 + bsm (x / 256) k
    rw [← ih (x / 256)]
    congr 1
    · exact cnt_c 8 fun i hi => by
        rw [show (256 : Nat) = 2 ^ 8 from rfl, Nat.testBit_mod_two_pow]; simp [hi]
    · congr 1
      funext i
      rw [show (256 : Nat) = 2 ^ 8 from rfl, Nat.testBit_div_two_pow, Nat.add_comm]
theorem dv {a b c : Nat} (h : b < c) : (c * a + b) / c = a := by
  rw [Nat.mul_add_div (by omega), Nat.div_eq_of_lt h, Nat.add_zero]
theorem fo_1 {b0 b1 b2 W1 W2 W3 : Nat} (e1 : W1 = 256 * W2 + b1) (e2 : W2 = 256 * W3 + b2) : 256 * W1 + b0 + W1 = 65536 * (W2 + W3) + ((b0 + b1) + 256 * (b1 + b2)) := by omega
theorem fo_2 {b2 b3 b4 W2 W3 W4 W5 : Nat} (e2 : W2 = 256 * W3 + b2) (e3 : W3 = 256 * W4 + b3) (e4 : W4 = 256 * W5 + b4) : W2 + W3 = 65536 * (W4 + W5) + ((b2 + b3) + 256 * (b3 + b4)) := by omega
theorem fo_3 {A B C L1 L2 L3 : Nat} (e1 : A = 65536 * B + L2) (e2 : B = 65536 * C + L3) : 65536 * A + L1 + A = 4294967296 * (B + C) + (65536 * (L2 + L3) + (L1 + L2)) := by omega
theorem fo_4 {a b c d : Nat} (ha : a ≤ 8) (hb : b ≤ 8) (hc : c ≤ 8) (hd : d ≤ 8) : (a + b) + 256 * (c + d) ≤ 4112 := by omega
theorem fo_5 {L1 L2 L3 : Nat} (h1 : L1 ≤ 4112) (h2 : L2 ≤ 4112) (h3 : L3 ≤ 4112) : 65536 * (L2 + L3) + (L1 + L2) < 4294967296 := by omega
theorem fo_6 {A B C L1 L2 L3 b0 b1 b2 b3 b4 b5 b6 b7 : Nat} (l1 : L1 = (b0 + b1) + 256 * (b1 + b2)) (l2 : L2 = (b2 + b3) + 256 * (b3 + b4)) (l3 : L3 = (b4 + b5) + 256 * (b5 + b6)) (e2 : B = 65536 * C + L3) (e3 : C = 256 * b7 + b6 + b7) : 4294967296 * (B + C) + (65536 * (L2 + L3) + (L1 + L2)) + (B + C) = 128 * (33554432 * (B + C) + 512 * (L2 + L3) + 2 * (b1 + b2) + 2 * (b3 + b4) + 512 * C + 2 * (b5 + b6) + 2 * b7) + (b0 + (b1 + (b2 + (b3 + (b4 + (b5 + (b6 + (b7 + 0)))))))) := by omega
theorem fo_7 {A b : Nat} (h : A < 2 ^ 59) : A + b % 128 < 2 ^ 60 := by omega
theorem fold8 {b0 b1 b2 b3 b4 b5 b6 b7 w n7 n9 n11 : Nat} (h0 : b0 ≤ 8) (h1 : b1 ≤ 8) (h2 : b2 ≤ 8) (h3 : b3 ≤ 8) (h4 : b4 ≤ 8) (h5 : b5 ≤ 8) (h6 : b6 ≤ 8) (h7 : b7 ≤ 8) (hw : w = 256 * (256 * (256 * (256 * (256 * (256 * (256 * (256 * 0 + b7) + b6) + b5) + b4) + b3) + b2) + b1) + b0) (e7 : n7 = w + w / 256) (e9 : n9 = n7 + n7 / 65536) (e11 : n11 = n9 + n9 / 4294967296) : n11 % 128 = b0 + (b1 + (b2 + (b3 + (b4 + (b5 + (b6 + (b7 + 0))))))) := by
  obtain ⟨W7, w7⟩ : ∃ x, x = 256 * 0 + b7 := ⟨_, rfl⟩
  rw [← w7] at hw
  obtain ⟨W6, w6⟩ : ∃ x, x = 256 * W7 + b6 := ⟨_, rfl⟩
  rw [← w6] at hw
  obtain ⟨W5, w5⟩ : ∃ x, x = 256 * W6 + b5 := ⟨_, rfl⟩
  rw [← w5] at hw
  obtain ⟨W4, w4⟩ : ∃ x, x = 256 * W5 + b4 := ⟨_, rfl⟩
  rw [← w4] at hw
  obtain ⟨W3, w3⟩ : ∃ x, x = 256 * W4 + b3 := ⟨_, rfl⟩
  rw [← w3] at hw
  obtain ⟨W2, w2⟩ : ∃ x, x = 256 * W3 + b2 := ⟨_, rfl⟩
  rw [← w2] at hw
  obtain ⟨W1, w1⟩ : ∃ x, x = 256 * W2 + b1 := ⟨_, rfl⟩
  rw [← w1] at hw
  have b8 : b0 < 256 := Nat.lt_of_le_of_lt h0 (by decide)
  rw [hw, dv b8, fo_1 w1 w2] at e7
  have l1 := fo_4 h0 h1 h1 h2
  have l2 := fo_4 h2 h3 h3 h4
  have l3 := fo_4 h4 h5 h5 h6
  rw [e7, dv (Nat.lt_of_le_of_lt l1 (by decide)), fo_3 (fo_2 w2 w3 w4) (fo_2 w4 w5 w6)] at e9
  have e3 : W6 + W7 = 256 * b7 + b6 + b7 := by rw [w6, w7, Nat.mul_zero, Nat.zero_add]
  rw [e9, dv (fo_5 l1 l2 l3), fo_6 (A := W2 + W3) rfl rfl rfl (fo_2 w4 w5 w6) e3] at e11
  rw [e11, Nat.mul_add_mod, Nat.mod_eq_of_lt (by clear hw e7 e9 e11 w1 w2 w3 w4 w5 w6 w7 e3 l1 l2 l3; omega)]
theorem bys_p : ∀ k x, bys x (k + 1) < 9 * 256 ^ k := by
  intro k
  induction k with
  | zero =>
    intro x
    have b := cnt_n (f := fun i => (x % 256).testBit i) 8
    show 256 * 0 + cnt (fun i => (x % 256).testBit i) 8 < 9 * 256 ^ 0
    omega
  | succ k ih =>
    intro x
    have a := ih (x / 256)
    have b := cnt_n (f := fun i => (x % 256).testBit i) 8
    show 256 * bys (x / 256) (k + 1) + cnt (fun i => (x % 256).testBit i) 8 < 9 * 256 ^ (k + 1)
    rw [Nat.pow_succ]
    omega
theorem bys_8 (x : Nat) : bys x 8 = 256 * (256 * (256 * (256 * (256 * (256 * (256 * (256 * 0 + cnt (fun i => (x / 256 / 256 / 256 / 256 / 256 / 256 / 256 % 256).testBit i) 8) + cnt (fun i => (x / 256 / 256 / 256 / 256 / 256 / 256 % 256).testBit i) 8) + cnt (fun i => (x / 256 / 256 / 256 / 256 / 256 % 256).testBit i) 8) + cnt (fun i => (x / 256 / 256 / 256 / 256 % 256).testBit i) 8) + cnt (fun i => (x / 256 / 256 / 256 % 256).testBit i) 8) + cnt (fun i => (x / 256 / 256 % 256).testBit i) 8) + cnt (fun i => (x / 256 % 256).testBit i) 8) + cnt (fun i => (x % 256).testBit i) 8 := by simp only [bys]
theorem bsm_8 (x : Nat) : bsm x 8 = cnt (fun i => (x % 256).testBit i) 8 + (cnt (fun i => (x / 256 % 256).testBit i) 8 + (cnt (fun i => (x / 256 / 256 % 256).testBit i) 8 + (cnt (fun i => (x / 256 / 256 / 256 % 256).testBit i) 8 + (cnt (fun i => (x / 256 / 256 / 256 / 256 % 256).testBit i) 8 + (cnt (fun i => (x / 256 / 256 / 256 / 256 / 256 % 256).testBit i) 8 + (cnt (fun i => (x / 256 / 256 / 256 / 256 / 256 / 256 % 256).testBit i) 8 + (cnt (fun i => (x / 256 / 256 / 256 / 256 / 256 / 256 / 256 % 256).testBit i) 8 + 0))))))) := by simp only [bsm]
theorem fold_x {x w n7 n9 n11 : Nat} (hw : w = bys x 8) (e7 : n7 = w + w / 256) (e9 : n9 = n7 + n7 / 65536) (e11 : n11 = n9 + n9 / 4294967296) : n11 % 128 = bsm x 8 := by
  rw [bsm_8]
  rw [bys_8] at hw
  exact fold8 (cnt_n 8) (cnt_n 8) (cnt_n 8) (cnt_n 8) (cnt_n 8) (cnt_n 8) (cnt_n 8) (cnt_n 8) hw e7 e9 e11
theorem fold_b {x w n7 n9 n11 : Nat} (hw : w < 9 * 256 ^ 7) (e7 : n7 = w + w / 256) (e9 : n9 = n7 + n7 / 65536) (e11 : n11 = n9 + n9 / 4294967296) : n7 < 2 ^ 64 ∧ n9 < 2 ^ 64 ∧ n11 < 2 ^ 64 := by
  have a : n7 ≤ 2 * w := by have := Nat.div_le_self w 256; omega
  have b : n9 ≤ 2 * n7 := by have := Nat.div_le_self n7 65536; omega
  have c : n11 ≤ 2 * n9 := by have := Nat.div_le_self n9 4294967296; omega
  have d : 9 * 256 ^ 7 < 2 ^ 60 := by decide
  clear e7 e9 e11
  omega
def tN (y : Int64) : Nat := y.toBitVec.toNat
theorem tN_lt (y : Int64) : tN y < 2 ^ 64 := y.toBitVec.isLt
theorem tN_and {a b : Int64} : tN (a &&& b) = tN a &&& tN b := by unfold tN; rw [Int64.toBitVec_and, BitVec.toNat_and]
theorem tN_add {a b : Int64} : tN (a + b) = (tN a + tN b) % 2 ^ 64 := by unfold tN; rw [Int64.toBitVec_add, BitVec.toNat_add]
theorem tN_sub {a b : Int64} (h : tN b ≤ tN a) : tN (a - b) = tN a - tN b := by
  have := tN_lt a
  unfold tN at *
  rw [Int64.toBitVec_sub, BitVec.toNat_sub]
  omega
theorem tN_shr {y : Int64} {c : UInt64} {k : Nat} (hc : (c.toBitVec % 64#64).toNat = k) : tN ((y.toUInt64 >>> c).toInt64) = tN y / 2 ^ k := by
  unfold tN
  show (y.toUInt64 >>> c).toBitVec.toNat = _
  rw [UInt64.toBitVec_shiftRight]
  show (y.toBitVec >>> ((c.toBitVec % 64#64).toNat)).toNat = _
  rw [hc, BitVec.toNat_ushiftRight, Nat.shiftRight_eq_div_pow]
theorem n7_b : ∀ v, v < 128 → ∀ k, k < 32 → bitI (nI v) k = v.testBit k := by decide +kernel
theorem i127 : ∀ k, k < 32 → bitI 127 k = decide (k < 7) := by decide +kernel
theorem tN_32 {y : Int64} : y.toInt32 &&& 127 = nI (tN y % 128) := by
  refine bit_ext fun k hk => ?_
  rw [bit_and, i127 k hk, n7_b _ (Nat.mod_lt _ (by omega)) k hk, show (128 : Nat) = 2 ^ 7 from rfl, Nat.testBit_mod_two_pow]
  unfold bitI tN
  show ((y.toBitVec.signExtend 32).getLsbD k && _) = _
  rw [BitVec.getLsbD_signExtend, decide_eq_true hk, if_pos (by omega), Bool.true_and, Bool.and_comm]
  rfl
end
