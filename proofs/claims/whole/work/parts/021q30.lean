/-! ===== the bits of a long, counted ===== -/
section
theorem F_b1 {x : Int64} : tN (x - ((x.toUInt64 >>> (((1 : Int32)).toInt64.toUInt64 &&& Int64.toUInt64 63)).toInt64 &&& (6148914691236517205 : Int64))) = s1 8 (tN x) := by
  have c1 : tN (6148914691236517205 : Int64) = mk8 85 8 := by decide +kernel
  have e : tN ((x.toUInt64 >>> (((1 : Int32)).toInt64.toUInt64 &&& Int64.toUInt64 63)).toInt64 &&& (6148914691236517205 : Int64)) = (tN x / 2) &&& mk8 85 8 := by
    rw [tN_and, tN_shr (k := 1) (by decide +kernel), c1]
  rw [tN_sub (by rw [e]; exact s1_le 8 _), e]
  unfold s1
  exact Eq.refl _
theorem F_b2 {y : Int64} : tN ((y &&& (3689348814741910323 : Int64)) + ((y.toUInt64 >>> (((2 : Int32)).toInt64.toUInt64 &&& Int64.toUInt64 63)).toInt64 &&& (3689348814741910323 : Int64))) = s2 8 (tN y) ∧ s2 8 (tN y) < 2 ^ 63 := by
  have c2 : tN (3689348814741910323 : Int64) = mk8 51 8 := by decide +kernel
  have m51 : mk8 51 8 < 2 ^ 62 := by decide +kernel
  rw [tN_add, tN_and, tN_and, tN_shr (k := 2) (by decide +kernel), c2]
  unfold s2
  generalize mk8 51 8 = m at *
  have e : tN y / 2 ^ 2 = tN y / 4 := by rw [show (2 : Nat) ^ 2 = 4 from rfl]
  rw [e]
  have a := Nat.and_le_right (n := tN y) (m := m)
  have b := Nat.and_le_right (n := tN y / 4) (m := m)
  generalize tN y &&& m = A at *
  generalize tN y / 4 &&& m = B at *
  clear e c2
  rw [Nat.mod_eq_of_lt (by omega)]
  exact ⟨rfl, by omega⟩
theorem F_b3 {y : Int64} (h : tN y < 2 ^ 63) : tN ((y + (y.toUInt64 >>> (((4 : Int32)).toInt64.toUInt64 &&& Int64.toUInt64 63)).toInt64) &&& (1085102592571150095 : Int64)) = s3 8 (tN y) := by
  have c3 : tN (1085102592571150095 : Int64) = mk8 15 8 := by decide +kernel
  have d := Nat.div_le_self (tN y) 16
  rw [tN_and, tN_add, tN_shr (k := 4) (by decide +kernel), c3, show (2 : Nat) ^ 4 = 16 from rfl, Nat.mod_eq_of_lt (by generalize tN y / 16 = z at *; omega)]
  unfold s3
  exact Eq.refl _
theorem F_b4 {y : Int64} {c : UInt64} {k : Nat} (hc : (c.toBitVec % 64#64).toNat = k) (h : tN y + tN y / 2 ^ k < 2 ^ 64) : tN (y + (y.toUInt64 >>> c).toInt64) = tN y + tN y / 2 ^ k := by
  rw [tN_add, tN_shr hc, Nat.mod_eq_of_lt h]
theorem F_bitc {x : Int64} {M : Mem} : F_J13_bitCount_95d88 x M = some (nI (cnt (fun i => (tN x).testBit i) 64)) := by
  have hx : tN x < 256 ^ 8 := tN_lt x
  unfold F_J13_bitCount_95d88
  rw [nm_t, nm_t, nm_t, nm_t, nm_t, nm_t]
  have h1 := F_b1 (x := x)
  generalize x - ((x.toUInt64 >>> (((1 : Int32)).toInt64.toUInt64 &&& Int64.toUInt64 63)).toInt64 &&& (6148914691236517205 : Int64)) = y1 at *
  obtain ⟨h2, l2⟩ := F_b2 (y := y1)
  generalize (y1 &&& (3689348814741910323 : Int64)) + ((y1.toUInt64 >>> (((2 : Int32)).toInt64.toUInt64 &&& Int64.toUInt64 63)).toInt64 &&& (3689348814741910323 : Int64)) = y2 at *
  rw [← h2] at l2
  have h3 := F_b3 (y := y2) l2
  rw [h2, h1, sw_b 8 (tN x) hx] at h3
  generalize (y2 + (y2.toUInt64 >>> (((4 : Int32)).toInt64.toUInt64 &&& Int64.toUInt64 63)).toInt64) &&& (1085102592571150095 : Int64) = y3 at *
  have bw : tN y3 < 9 * 256 ^ 7 := by rw [h3]; exact bys_p 7 (tN x)
  obtain ⟨n7, e7⟩ : ∃ n, n = tN y3 + tN y3 / 256 := ⟨_, rfl⟩
  obtain ⟨n9, e9⟩ : ∃ n, n = n7 + n7 / 65536 := ⟨_, rfl⟩
  obtain ⟨n11, e11⟩ : ∃ n, n = n9 + n9 / 4294967296 := ⟨_, rfl⟩
  obtain ⟨d7, d9, d11⟩ := fold_b (x := 0) bw e7 e9 e11
  have hf := fold_x h3 e7 e9 e11
  have h4 : tN (y3 + (y3.toUInt64 >>> (((8 : Int32)).toInt64.toUInt64 &&& Int64.toUInt64 63)).toInt64) = n7 := by
    rw [F_b4 (k := 8) (by decide +kernel) (by rw [show (2 : Nat) ^ 8 = 256 from rfl, ← e7]; exact d7), e7]
  generalize y3 + (y3.toUInt64 >>> (((8 : Int32)).toInt64.toUInt64 &&& Int64.toUInt64 63)).toInt64 = y4 at *
  have h5 : tN (y4 + (y4.toUInt64 >>> (((16 : Int32)).toInt64.toUInt64 &&& Int64.toUInt64 63)).toInt64) = n9 := by
    rw [F_b4 (k := 16) (by decide +kernel) (by rw [show (2 : Nat) ^ 16 = 65536 from rfl, h4, ← e9]; exact d9), h4, e9]
  generalize y4 + (y4.toUInt64 >>> (((16 : Int32)).toInt64.toUInt64 &&& Int64.toUInt64 63)).toInt64 = y5 at *
  have h6 : tN (y5 + (y5.toUInt64 >>> (((32 : Int32)).toInt64.toUInt64 &&& Int64.toUInt64 63)).toInt64) = n11 := by
    rw [F_b4 (k := 32) (by decide +kernel) (by rw [show (2 : Nat) ^ 32 = 4294967296 from rfl, h5, ← e11]; exact d11), h5, e11]
  rw [tN_32, h6, hf, ← cnt_b 8 (tN x)]
end
