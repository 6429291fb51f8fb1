/-! ===== tokens: the reference ===== -/
section
variable {N N' N1 N2 : Mem} {B : Nat → Nat} {n q i a e k : Nat} {X X' : Nat → Nat → Prop}
def TxM (B : Nat → Nat) (n : Nat) (N : Mem) : Prop := Lay N ∧ n ≤ 700 ∧ (∀ i, i < n → B i < 256) ∧ mI N 67 16 = nI n ∧ ∀ i, i < n → mI N 73 i = nI (B i)
def XM (k j : Nat) : Prop := k = 67 ∧ 17 ≤ j ∧ j ≤ 22
theorem TxM.fr (t : TxM B n N) (w : Fr X N N') (h1 : ¬ X 67 16) (h2 : ∀ i, ¬ X 73 i) : TxM B n N' := ⟨t.1.fr w, t.2.1, t.2.2.1, (w.at h1).trans t.2.2.2.1, fun i hi => (w.at (h2 i)).trans (t.2.2.2.2 i hi)⟩
theorem TxM.fa (t : TxM B n N) (w : Fr XM N N') : TxM B n N' := t.fr w (by unfold XM; omega) (fun i => by unfold XM; omega)
def byT (B : Nat → Nat) (n i : Nat) : Nat := if i < n then B i else 0
theorem by_t (hB : ∀ i, i < n → B i < 256) : byT B n i < 256 ∧ (kdT B n i = 2 ↔ bk (byT B n i) = 2) ∧ (kdT B n i = 3 ↔ bk (byT B n i) = 3) := by
  unfold byT kdT
  by_cases c : i < n
  · rw [if_pos c, if_pos c]; exact ⟨hB i c, Iff.rfl, Iff.rfl⟩
  · rw [if_neg c, if_neg c]; exact ⟨by omega, by decide, by decide⟩
theorem M_byte (t : TxM B n N) (hi : i < 2 ^ 31) : F_X9_byteAt 67 (nI i) N = some (nI (byT B n i)) := by
  have hn := t.2.1
  unfold F_X9_byteAt byT
  rw [Lf_67 t.1, ob_t, t.2.2.2.1]
  by_cases c : i < n
  · rw [if_neg (nI_ge c (by omega)), if_pos c, Lp_67_11 t.1, ob_t, La_73 t.1 (by omega), ob_t, t.2.2.2.2 i c]
  · rw [if_pos (nI_le (by omega) hi), if_neg c]; rfl
theorem le_t : ∀ b, b < 256 → ((if nI b < 97 then (0 : Int32) else if 122 < nI b then 0 else 1) = if bk b = 2 then 1 else 0) ∧ (if nI b < 48 then (0 : Int32) else if 57 < nI b then 0 else 1) = if bk b = 3 then 1 else 0 := by decide +kernel
theorem M_isL {b : Nat} (hb : b < 256) : F_X9_isLetter (nI b) N = some (if bk b = 2 then 1 else 0) := by
  rw [← (le_t b hb).1]; unfold F_X9_isLetter
  repeat' split
  all_goals first | rfl | contradiction
theorem M_isD {b : Nat} (hb : b < 256) : F_X9_isDigit (nI b) N = some (if bk b = 3 then 1 else 0) := by
  rw [← (le_t b hb).2]; unfold F_X9_isDigit
  repeat' split
  all_goals first | rfl | contradiction
theorem M_skip (t : TxM B n N) (h6 : mI N 67 17 = nI q) (hq : q ≤ n) : ∃ N', loop (fun s => F_X9_takes_s0 67 s) N = some N' ∧ mI N' 67 17 = nI (plT B n q) ∧ Fr XM N N' := by
  have hn := t.2.1
  refine loop_ex (step := fun s => F_X9_takes_s0 67 s) (fun k N' => mI N' 67 17 = nI (q + k) ∧ (∀ j, q ≤ j → j < q + k → kdT B n j = 1) ∧ Fr XM N N') _ (n - q) ?_ ⟨h6, fun j h1 h2 => by omega, Fr.rfl'⟩
  rintro k N' hk ⟨z1, z2, w⟩
  have t' := t.fa w
  unfold F_X9_takes_s0
  rw [Lf_67 t'.1, ob_t, Lf_67 t'.1, ob_t, z1, t'.2.2.2.1]
  by_cases c : n ≤ q + k
  · rw [if_pos (nI_le c (by omega))]
    exact Or.inl ⟨N', rfl, by rw [z1, pl_u (by omega) (by omega) z2 (by rw [kd_0.mpr c]; omega)], w⟩
  · have hb := t.2.2.1 (q + k) (by omega)
    have kb : kdT B n (q + k) = bk (B (q + k)) := by unfold kdT; rw [if_pos (by omega)]
    have bb : byT B n (q + k) = B (q + k) := by unfold byT; rw [if_pos (by omega)]
    have yes : kdT B n (q + k) = 1 → ∃ s', F_X9_takes_j37_0 67 N' = some (.inl s') ∧ mI s' 67 17 = nI (q + (k + 1)) ∧ (∀ j, q ≤ j → j < q + (k + 1) → kdT B n j = 1) ∧ Fr XM N s' := fun d => by
      unfold F_X9_takes_j37_0
      rw [Lf_67 t'.1, ob_t, z1, Ls_67 t'.1, ob_t, nI_1]
      refine ⟨_, rfl, by rw [mI_st, if_pos ⟨rfl, rfl⟩]; rfl, fun j h1 h2 => ?_, w.st (by unfold XM; omega)⟩
      by_cases e : j = q + k
      · rw [e]; exact d
      · exact z2 j h1 (by omega)
    rw [if_neg (nI_ge (by omega) (by omega)), ob_t, Lc_67 t'.1, M_byte t' (by omega), ob_t, bb]
    by_cases d : B (q + k) = 32
    · rw [if_pos (by rw [d]; rfl)]
      exact Or.inr ⟨by omega, yes (by rw [kb, d]; rfl)⟩
    · rw [if_neg (neL32 d (by omega)), ob_t, Lc_67 t'.1, M_byte t' (by omega), ob_t, bb]
      by_cases e : B (q + k) = 10
      · rw [if_pos (by rw [e]; rfl)]
        exact Or.inr ⟨by omega, yes (by rw [kb, e]; rfl)⟩
      · rw [if_neg (neL10 e (by omega))]
        refine Or.inl ⟨N', rfl, ?_, w⟩
        rw [z1, pl_u (by omega) (by omega) z2]
        rw [kb]; unfold bk
        rw [if_neg (by omega)]
        split
        · omega
        · split <;> omega
/-- letters, five bits each -/
def pkI (B : Nat → Nat) (a : Nat) : Nat → Nat
  | 0 => 0
  | k + 1 => 32 * pkI B a k + (B (a + k) - 96)
theorem pk_b (h : ∀ j, j < k → bk (B (a + j)) = 2) (hB : ∀ j, j < k → B (a + j) < 256) : ∀ m, m ≤ k → pkI B a m < 32 ^ m := by
  intro m
  induction m with
  | zero => intro _; show 0 < 1; omega
  | succ m ih =>
    intro hm
    have := lt_t _ (hB m (by omega)) (h m (by omega))
    have := ih (by omega)
    show 32 * pkI B a m + (B (a + m) - 96) < 32 ^ (m + 1)
    rw [Nat.pow_succ]; omega
theorem or_32 {x y : Int64} {w d : Nat} (hx : tN x = w) (hy : tN y = d) (hd : d < 32) (hw : w < 2 ^ 40) : tN ((x <<< (((5 : Int32)).toInt64 &&& 63)) ||| y) = 32 * w + d := by
  rw [tN_or, hy]
  have s : tN (x <<< (((5 : Int32)).toInt64 &&& 63)) = 32 * w := by
    unfold tN
    rw [Int64.toBitVec_shiftLeft]
    have : (((5 : Int32)).toInt64 &&& 63).toBitVec.smod 64 = 5#64 := by decide
    rw [this, BitVec.shiftLeft_eq', BitVec.toNat_shiftLeft, Nat.shiftLeft_eq]
    unfold tN at hx
    rw [hx, show (5#64).toNat = 5 from rfl, Nat.mod_eq_of_lt (by omega)]; omega
  rw [s, show 32 * w = 2 ^ 5 * w from rfl, ← Nat.two_pow_add_eq_or_of_lt (i := 5) (by omega)]
theorem d32 : ∀ d, d < 32 → tN ((nI d).toInt64) = d := by decide +kernel
theorem M_word (t : TxM B n N) (ha : a = plT B n q) (hq : q ≤ n) (h2 : kdT B n a = 2) (h17 : mI N 67 17 = nI a) (h19 : mI N 67 19 = nI a) (h23 : mL N 67 23 = 0) : ∃ N', loop (fun s => F_X9_takes_s108 67 s) N = some N' ∧ mI N' 67 17 = nI (enT B n q) ∧ (enT B n q - a ≤ 6 → tN (mL N' 67 23) = pkI B a (enT B n q - a)) ∧ Fr XM N N' ∧ ∀ j, j ≠ 17 → mI N' 67 j = mI N 67 j := by
  have hn := t.2.1
  have pl := pl_le (B := B) hq
  have an : a < n := by
    by_cases d : a < n
    · exact d
    · rw [kd_0.mpr (by omega)] at h2; omega
  refine loop_ex (step := fun s => F_X9_takes_s108 67 s) (fun k N' => mI N' 67 17 = nI (a + k) ∧ (∀ j, a ≤ j → j < a + k → kdT B n j = 2) ∧ (k ≤ 6 → tN (mL N' 67 23) = pkI B a k) ∧ Fr XM N N' ∧ ∀ j, j ≠ 17 → mI N' 67 j = mI N 67 j) _ (n - a) ?_ ⟨h17, fun j h1 h2 => by omega, fun _ => by rw [h23]; rfl, Fr.rfl', fun _ _ => rfl⟩
  rintro k N' hk ⟨z1, z2, z3, w, z4⟩
  have t' := t.fa w
  have bt := by_t (B := B) (n := n) (i := a + k) t.2.2.1
  unfold F_X9_takes_s108
  rw [Lf_67 t'.1, ob_t, z1, Lc_67 t'.1, M_byte t' (by omega), ob_t, M_isL bt.1, ob_t]
  by_cases c : kdT B n (a + k) = 2
  · have kn : a + k < n := by
      by_cases d : a + k < n
      · exact d
      · rw [kd_0.mpr (by omega)] at c; omega
    have bb : byT B n (a + k) = B (a + k) := by unfold byT; rw [if_pos kn]
    have bl : ∀ j, j < k + 1 → bk (B (a + j)) = 2 := fun j hj => by
      have : kdT B n (a + j) = 2 := by
        by_cases e : j = k
        · rw [e]; exact c
        · exact z2 _ (by omega) (by omega)
      unfold kdT at this
      rw [if_pos (by omega)] at this; exact this
    have lb := lt_t _ (t.2.2.1 _ kn) (bl k (by omega))
    have z2' : ∀ j, a ≤ j → j < a + (k + 1) → kdT B n j = 2 := fun j h1 h2 => by
      by_cases e : j = a + k
      · rw [e]; exact c
      · exact z2 j h1 (by omega)
    rw [if_pos (bt.2.1.mp c), if_neg (by decide), ob_t, Lf_67 t'.1, ob_t, z4 19 (by omega), h19, nI_sub (by omega), show a + k - a = k by omega]
    refine Or.inr ⟨by omega, ?_⟩
    by_cases d : 6 ≤ k
    · rw [if_pos (show (6 : Int32) ≤ nI k from nI_le (a := 6) d (by omega))]
      unfold F_X9_takes_j159_108
      rw [Lf_67 t'.1, ob_t, z1, Ls_67 t'.1, ob_t, nI_1]
      exact ⟨_, rfl, by rw [mI_st, if_pos ⟨rfl, rfl⟩]; rfl, z2', fun y => by omega, w.st (by unfold XM; omega), fun j hj => by rw [mI_st, if_neg (fun y => hj y.2)]; exact z4 j hj⟩
    · have pb := pk_b (B := B) (a := a) (k := k) (fun j hj => bl j (by omega)) (fun j hj => t.2.2.1 _ (by omega)) k (Nat.le_refl _)
      have pb' : pkI B a k < 2 ^ 40 := Nat.lt_of_lt_of_le pb (Nat.le_trans (Nat.pow_le_pow_right (by omega) (show k ≤ 6 by omega)) (by decide))
      have gl : gL N' 9 67 23 = some (mL N' 67 23) := gL_t (t'.1.t rfl)
      rw [if_neg (show ¬ (6 : Int32) ≤ nI k from nI_ge (b := 6) (by omega) (by omega)), gl, ob_t, ob_t, Lc_67 t'.1, M_byte t' (by omega), ob_t, bb, pL_t (t'.1.t rfl), ob_t, show nI (B (a + k)) - (96 : Int32) = nI (B (a + k) - 96) from nI_sub (b := 96) (by omega)]
      unfold F_X9_takes_j159_108
      rw [Lf_67 t'.1.stL, ob_t, mI_stL, z1, Ls_67 t'.1.stL, ob_t, nI_1]
      refine ⟨_, rfl, by rw [mI_st, if_pos ⟨rfl, rfl⟩]; rfl, z2', fun _ => ?_, w.stL.st (by unfold XM; omega), fun j hj => by rw [mI_st, if_neg (fun y => hj y.2), mI_stL]; exact z4 j hj⟩
      rw [mL_st, mL_stL, if_pos ⟨rfl, rfl⟩]
      exact or_32 (z3 (by omega)) (d32 _ (by omega)) (by omega) pb'
  · rw [if_neg (fun y => c (bt.2.1.mpr y)), if_pos rfl]
    have k0 : k ≠ 0 := fun y => c (by rw [y]; exact h2)
    have en : enT B n q = a + k := en_u (by rw [← ha]; omega) (by rw [← ha]; omega) (by omega) (by omega) (by rw [← ha, h2]; exact fun j h1 h2 => z2 j (by omega) h2) (by rw [← ha, h2]; exact c)
    refine Or.inl ⟨N', rfl, by rw [z1, en], fun y => ?_, w, z4⟩
    rw [en, show a + k - a = k by omega]; exact z3 (by omega)
theorem M_dig (t : TxM B n N) (ha : a = plT B n q) (hq : q ≤ n) (h2 : kdT B n a = 3) (h17 : mI N 67 17 = nI a) (h19 : mI N 67 19 = nI a) (h21 : mI N 67 21 = 0) : ∃ N', loop (fun s => F_X9_takes_s187 67 s) N = some N' ∧ mI N' 67 17 = nI (enT B n q) ∧ (enT B n q - a ≤ 4 → mI N' 67 21 = nI (nvL B a (enT B n q - a))) ∧ Fr XM N N' ∧ ∀ j, j ≠ 17 → j ≠ 21 → mI N' 67 j = mI N 67 j := by
  have hn := t.2.1
  have pl := pl_le (B := B) hq
  have an : a < n := by
    by_cases d : a < n
    · exact d
    · rw [kd_0.mpr (by omega)] at h2; omega
  refine loop_ex (step := fun s => F_X9_takes_s187 67 s) (fun k N' => mI N' 67 17 = nI (a + k) ∧ (∀ j, a ≤ j → j < a + k → kdT B n j = 3) ∧ (k ≤ 4 → mI N' 67 21 = nI (nvL B a k)) ∧ Fr XM N N' ∧ ∀ j, j ≠ 17 → j ≠ 21 → mI N' 67 j = mI N 67 j) _ (n - a) ?_ ⟨h17, fun j h1 h2 => by omega, fun _ => h21, Fr.rfl', fun _ _ _ => rfl⟩
  rintro k N' hk ⟨z1, z2, z3, w, z4⟩
  have t' := t.fa w
  have bt := by_t (B := B) (n := n) (i := a + k) t.2.2.1
  unfold F_X9_takes_s187
  rw [Lf_67 t'.1, ob_t, z1, Lc_67 t'.1, M_byte t' (by omega), ob_t, M_isD bt.1, ob_t]
  by_cases c : kdT B n (a + k) = 3
  · have kn : a + k < n := by
      by_cases d : a + k < n
      · exact d
      · rw [kd_0.mpr (by omega)] at c; omega
    have bb : byT B n (a + k) = B (a + k) := by unfold byT; rw [if_pos kn]
    have bl : ∀ j, j < k + 1 → bk (B (a + j)) = 3 := fun j hj => by
      have : kdT B n (a + j) = 3 := by
        by_cases e : j = k
        · rw [e]; exact c
        · exact z2 _ (by omega) (by omega)
      unfold kdT at this
      rw [if_pos (by omega)] at this; exact this
    have lb := dg_t _ (t.2.2.1 _ kn) (bl k (by omega))
    have z2' : ∀ j, a ≤ j → j < a + (k + 1) → kdT B n j = 3 := fun j h1 h2 => by
      by_cases e : j = a + k
      · rw [e]; exact c
      · exact z2 j h1 (by omega)
    rw [if_pos (bt.2.2.mp c), if_neg (by decide), ob_t, Lf_67 t'.1, ob_t, z4 19 (by omega) (by omega), h19, nI_sub (by omega), show a + k - a = k by omega]
    refine Or.inr ⟨by omega, ?_⟩
    by_cases d : 4 ≤ k
    · rw [if_pos (show (4 : Int32) ≤ nI k from nI_le (a := 4) d (by omega))]
      unfold F_X9_takes_j237_187
      rw [Lf_67 t'.1, ob_t, z1, Ls_67 t'.1, ob_t, nI_1]
      exact ⟨_, rfl, by rw [mI_st, if_pos ⟨rfl, rfl⟩]; rfl, z2', fun y => by omega, w.st (by unfold XM; omega), fun j hj hj' => by rw [mI_st, if_neg (fun y => hj y.2)]; exact z4 j hj hj'⟩
    · have nb := nv_b (B := B) (a := a) (k := k) (fun j hj => bl j (by omega)) (by omega)
      rw [if_neg (show ¬ (4 : Int32) ≤ nI k from nI_ge (b := 4) (by omega) (by omega)), Lf_67 t'.1, ob_t, z3 (by omega), ob_t, Lc_67 t'.1, M_byte t' (by omega), ob_t, bb, Ls_67 t'.1, ob_t, show (10 : Int32) * nI (nvL B a k) = nI (10 * nvL B a k) from nI_mul (a := 10), nI_add, show nI (10 * nvL B a k + B (a + k)) - (48 : Int32) = nI (10 * nvL B a k + B (a + k) - 48) from nI_sub (b := 48) (by omega)]
      unfold F_X9_takes_j237_187
      rw [Lf_67 t'.1.st, ob_t, mI_st, if_neg (by omega), z1, Ls_67 t'.1.st, ob_t, nI_1]
      refine ⟨_, rfl, by rw [mI_st, if_pos ⟨rfl, rfl⟩]; rfl, z2', fun _ => ?_, (w.st (by unfold XM; omega)).st (by unfold XM; omega), fun j hj hj' => by rw [mI_st, if_neg (fun y => hj y.2), mI_st, if_neg (fun y => hj' y.2)]; exact z4 j hj hj'⟩
      rw [mI_st, if_neg (by omega), mI_st, if_pos ⟨rfl, rfl⟩]
      show _ = nI (10 * nvL B a k + (B (a + k) - 48))
      congr 1; omega
  · rw [if_neg (fun y => c (bt.2.2.mpr y)), if_pos rfl]
    have k0 : k ≠ 0 := fun y => c (by rw [y]; exact h2)
    have en : enT B n q = a + k := en_u (by rw [← ha]; omega) (by rw [← ha]; omega) (by omega) (by omega) (by rw [← ha, h2]; exact fun j h1 h2 => z2 j (by omega) h2) (by rw [← ha, h2]; exact c)
    refine Or.inl ⟨N', rfl, by rw [z1, en], fun y => ?_, w, z4⟩
    rw [en, show a + k - a = k by omega]; exact z3 (by omega)
abbrev sgS (c : Nat) : Prop := c = 59 ∨ c = 40 ∨ c = 41 ∨ c = 43 ∨ c = 45 ∨ c = 42 ∨ c = 47 ∨ c = 60 ∨ c = 61
def srT (B : Nat → Nat) (n a : Nat) : Nat := if kdT B n a = 0 then 0 else if kdT B n a = 2 then 1 else if kdT B n a = 3 then 2 else if sgS (B a) then 3 else 4
/-- the token that begins behind q is the one that the reference looks at -/
def TkM (B : Nat → Nat) (n q : Nat) (N : Mem) : Prop := TxM B n N ∧ q ≤ n ∧ mI N 67 17 = nI (enT B n q) ∧ mI N 67 19 = nI (plT B n q) ∧ mI N 67 18 = nI (srT B n (plT B n q)) ∧ mI N 67 20 = nI (enT B n q - plT B n q) ∧ (kdT B n (plT B n q) = 3 → enT B n q - plT B n q ≤ 4 → mI N 67 21 = nI (nvL B (plT B n q) (enT B n q - plT B n q))) ∧ (kdT B n (plT B n q) = 4 → mI N 67 22 = nI (B (plT B n q))) ∧ (kdT B n (plT B n q) = 2 → enT B n q - plT B n q ≤ 6 → tN (mL N 67 23) = pkI B (plT B n q) (enT B n q - plT B n q))
theorem M_end (t : TxM B n N) (hq : q ≤ n) {N0 : Mem} {s : Nat} (w : Fr XM N0 N) (h17 : mI N 67 17 = nI (enT B n q)) (h19 : mI N 67 19 = nI (plT B n q)) (hs : s = srT B n (plT B n q)) (h1 : kdT B n (plT B n q) = 3 → enT B n q - plT B n q ≤ 4 → mI N 67 21 = nI (nvL B (plT B n q) (enT B n q - plT B n q))) (h2 : kdT B n (plT B n q) = 4 → mI N 67 22 = nI (B (plT B n q))) (h3 : kdT B n (plT B n q) = 2 → enT B n q - plT B n q ≤ 6 → tN (mL N 67 23) = pkI B (plT B n q) (enT B n q - plT B n q)) : ∃ N', F_X9_takes_j331 67 (stI N 67 18 (nI s)) = some N' ∧ TkM B n q N' ∧ Fr XM N0 N' := by
  have w' : Fr XM N (stI (stI N 67 18 (nI s)) 67 20 (nI (enT B n q - plT B n q))) := (Fr.rfl'.st (by unfold XM; omega)).st (by unfold XM; omega)
  refine ⟨_, ?_, ⟨t.fa w', hq, ?_, ?_, ?_, ?_, fun a b => ?_, fun a => ?_, fun a b => ?_⟩, w.trans w'⟩
  · unfold F_X9_takes_j331
    rw [Lf_67 t.1.st, ob_t, Lf_67 t.1.st, ob_t, mI_st, if_neg (by omega), mI_st, if_neg (by omega), h17, h19, nI_sub (en_le hq).1, Ls_67 t.1.st, ob_t]
  · rw [mI_st, if_neg (by omega), mI_st, if_neg (by omega)]; exact h17
  · rw [mI_st, if_neg (by omega), mI_st, if_neg (by omega)]; exact h19
  · rw [mI_st, if_neg (by omega), mI_st, if_pos ⟨rfl, rfl⟩, hs]
  · rw [mI_st, if_pos ⟨rfl, rfl⟩]
  · rw [mI_st, if_neg (by omega), mI_st, if_neg (by omega)]; exact h1 a b
  · rw [mI_st, if_neg (by omega), mI_st, if_neg (by omega)]; exact h2 a
  · exact h3 a b
theorem M_takes (t : TxM B n N) (h17 : mI N 67 17 = nI q) (hq : q ≤ n) : ∃ N', F_X9_takes 67 N = some N' ∧ TkM B n q N' ∧ Fr XM N N' := by
  have hn := t.2.1
  obtain ⟨N1, e1, z1, w1⟩ := M_skip t h17 hq
  have t1 := t.fa w1
  have pl := pl_le (B := B) hq
  have ps : ∀ v, ∃ N4, N4 = stI (stI (stL (stI N1 67 19 (nI (plT B n q))) 67 23 0) 67 21 0) 67 22 v ∧ Fr XM N N4 ∧ mI N4 67 17 = nI (plT B n q) ∧ mI N4 67 19 = nI (plT B n q) ∧ mI N4 67 21 = 0 ∧ mI N4 67 22 = v ∧ mL N4 67 23 = 0 := fun v => ⟨_, rfl, ((w1.st (by unfold XM; omega)).stL.st (by unfold XM; omega)).st (by unfold XM; omega), by simp [mI_st, mI_stL]; exact z1, by simp [mI_st, mI_stL], by simp [mI_st, mI_stL], by simp [mI_st, mI_stL], by simp [mL_st, mL_stL]⟩
  obtain ⟨N4, e4, w4, f17, f19, f21, f22, f23⟩ := ps (nI (byT B n (plT B n q)))
  have t4 := t.fa w4
  unfold F_X9_takes
  rw [e1, ob_t]
  unfold F_X9_takes_j50
  have L1 := t1.1
  have t3 : TxM B n (stI (stL (stI N1 67 19 (nI (plT B n q))) 67 23 0) 67 21 0) := t.fa ((w1.st (by unfold XM; omega)).stL.st (by unfold XM; omega))
  rw [Lf_67 L1, ob_t, z1, Ls_67 L1, ob_t, pL_t (L1.st.t rfl), ob_t, Ls_67 (L1.st.stL), ob_t, Lf_67 t3.1, ob_t, show mI (stI (stL (stI N1 67 19 (nI (plT B n q))) 67 23 0) 67 21 0) 67 17 = nI (plT B n q) by simp [mI_st, mI_stL]; exact z1, Lc_67 t3.1, M_byte t3 (by omega), ob_t, Ls_67 t3.1, ob_t, ← e4, Lf_67 t4.1, ob_t, Lf_67 t4.1, ob_t, f17, t4.2.2.2.1]
  have bt := by_t (B := B) (n := n) (i := plT B n q) t.2.2.1
  by_cases c : plT B n q < n
  · have bb : byT B n (plT B n q) = B (plT B n q) := by unfold byT; rw [if_pos c]
    have k0 : kdT B n (plT B n q) ≠ 0 := fun y => by have := kd_0.mp y; omega
    rw [if_pos (nI_lt c (by omega)), M_isL bt.1, ob_t]
    by_cases k2 : kdT B n (plT B n q) = 2
    · obtain ⟨N5, e5, g17, g23, w5, o5⟩ := M_word t4 rfl hq k2 f17 f19 f23
      rw [if_pos (bt.2.1.mp k2), if_neg (by decide), e5, ob_t, Ls_67 (t4.fa w5).1, ob_t]
      exact M_end (s := 1) (t4.fa w5) hq (w4.trans w5) g17 ((o5 19 (by omega)).trans f19) (by unfold srT; rw [if_neg k0, if_pos k2]) (fun y => by omega) (fun y => by omega) (fun _ y => g23 y)
    · rw [if_neg (fun y => k2 (bt.2.1.mpr y)), if_pos rfl, M_isD bt.1, ob_t]
      by_cases k3 : kdT B n (plT B n q) = 3
      · obtain ⟨N5, e5, g17, g21, w5, o5⟩ := M_dig t4 rfl hq k3 f17 f19 f21
        rw [if_pos (bt.2.2.mp k3), if_neg (by decide), e5, ob_t, Ls_67 (t4.fa w5).1, ob_t]
        exact M_end (s := 2) (t4.fa w5) hq (w4.trans w5) g17 ((o5 19 (by omega) (by omega)).trans f19) (by unfold srT; rw [if_neg k0, if_neg k2, if_pos k3]) (fun _ y => g21 y) (fun y => by omega) (fun y => by omega)
      · have k4 : kdT B n (plT B n q) = 4 := by
          rcases kd_c (B := B) hq with y | y | y | y
          · exact absurd y k0
          · exact absurd y k2
          · exact absurd y k3
          · exact y
        have w5 : Fr XM N (stI N4 67 17 (nI (plT B n q + 1))) := w4.st (by unfold XM; omega)
        have fin := fun (s : Nat) (hs : s = srT B n (plT B n q)) => M_end (N0 := N) (s := s) (t.fa w5) hq w5 (by rw [mI_st, if_pos ⟨rfl, rfl⟩]; unfold enT; rw [if_neg k0, if_pos k4]) (by rw [mI_st, if_neg (by omega)]; exact f19) hs (fun y => by omega) (fun _ => by rw [mI_st, if_neg (by omega), f22, bb]) (fun y => by omega)
        have hb := t.2.2.1 _ c
        rw [if_neg (fun y => k3 (bt.2.2.mpr y)), if_pos rfl, ob_t, Ls_67 t4.1, ob_t, nI_1, bb]
        have yes : sgS (B (plT B n q)) → ∃ N', F_X9_takes_j323 67 67 (stI N4 67 17 (nI (plT B n q + 1))) = some N' ∧ TkM B n q N' ∧ Fr XM N N' := fun y => by
          unfold F_X9_takes_j323 F_X9_takes_j328
          rw [Ls_67 t4.1.st, ob_t]
          exact fin 3 (by unfold srT; rw [if_neg k0, if_neg k2, if_neg k3, if_pos y])
        have eqb : ∀ x, x < 256 → (nI (B (plT B n q)) = nI x ↔ B (plT B n q) = x) := fun x hx => nI_eq (by omega) (by omega)
        by_cases s1 : B (plT B n q) = 59
        · rw [if_pos (show nI (B (plT B n q)) = (59 : Int32) from (eqb 59 (by omega)).mpr s1)]; exact yes (by unfold sgS; omega)
        rw [if_neg (show ¬ nI (B (plT B n q)) = (59 : Int32) from fun y => s1 ((eqb 59 (by omega)).mp y))]
        by_cases s2 : B (plT B n q) = 40
        · rw [if_pos (show nI (B (plT B n q)) = (40 : Int32) from (eqb 40 (by omega)).mpr s2)]; exact yes (by unfold sgS; omega)
        rw [if_neg (show ¬ nI (B (plT B n q)) = (40 : Int32) from fun y => s2 ((eqb 40 (by omega)).mp y))]
        by_cases s3 : B (plT B n q) = 41
        · rw [if_pos (show nI (B (plT B n q)) = (41 : Int32) from (eqb 41 (by omega)).mpr s3)]; exact yes (by unfold sgS; omega)
        rw [if_neg (show ¬ nI (B (plT B n q)) = (41 : Int32) from fun y => s3 ((eqb 41 (by omega)).mp y))]
        by_cases s4 : B (plT B n q) = 43
        · rw [if_pos (show nI (B (plT B n q)) = (43 : Int32) from (eqb 43 (by omega)).mpr s4)]; exact yes (by unfold sgS; omega)
        rw [if_neg (show ¬ nI (B (plT B n q)) = (43 : Int32) from fun y => s4 ((eqb 43 (by omega)).mp y))]
        by_cases s5 : B (plT B n q) = 45
        · rw [if_pos (show nI (B (plT B n q)) = (45 : Int32) from (eqb 45 (by omega)).mpr s5)]; exact yes (by unfold sgS; omega)
        rw [if_neg (show ¬ nI (B (plT B n q)) = (45 : Int32) from fun y => s5 ((eqb 45 (by omega)).mp y))]
        by_cases s6 : B (plT B n q) = 42
        · rw [if_pos (show nI (B (plT B n q)) = (42 : Int32) from (eqb 42 (by omega)).mpr s6)]; exact yes (by unfold sgS; omega)
        rw [if_neg (show ¬ nI (B (plT B n q)) = (42 : Int32) from fun y => s6 ((eqb 42 (by omega)).mp y))]
        by_cases s7 : B (plT B n q) = 47
        · rw [if_pos (show nI (B (plT B n q)) = (47 : Int32) from (eqb 47 (by omega)).mpr s7)]; exact yes (by unfold sgS; omega)
        rw [if_neg (show ¬ nI (B (plT B n q)) = (47 : Int32) from fun y => s7 ((eqb 47 (by omega)).mp y))]
        by_cases s8 : B (plT B n q) = 60
        · rw [if_pos (show nI (B (plT B n q)) = (60 : Int32) from (eqb 60 (by omega)).mpr s8)]; exact yes (by unfold sgS; omega)
        rw [if_neg (show ¬ nI (B (plT B n q)) = (60 : Int32) from fun y => s8 ((eqb 60 (by omega)).mp y))]
        by_cases s9 : B (plT B n q) = 61
        · rw [if_pos (show nI (B (plT B n q)) = (61 : Int32) from (eqb 61 (by omega)).mpr s9)]; exact yes (by unfold sgS; omega)
        rw [if_neg (show ¬ nI (B (plT B n q)) = (61 : Int32) from fun y => s9 ((eqb 61 (by omega)).mp y))]
        unfold F_X9_takes_j328
        rw [show (4 : Int32) = nI 4 from rfl, Ls_67 t4.1.st, ob_t]
        exact fin 4 (by unfold srT; rw [if_neg k0, if_neg k2, if_neg k3, if_neg (by unfold sgS; omega)])
  · have k0 : kdT B n (plT B n q) = 0 := kd_0.mpr (by omega)
    rw [if_neg (nI_nlt (by omega) (by omega)), Ls_67 t4.1, ob_t]
    exact M_end (s := 0) t4 hq w4 (by rw [f17]; unfold enT; rw [if_pos k0]) f19 (by unfold srT; rw [if_pos k0]) (fun y => by omega) (fun y => by omega) (fun y => by omega)
theorem TkM.take (t : TkM B n q N) : ∃ N', F_X9_takes 67 N = some N' ∧ TkM B n (enT B n q) N' ∧ Fr XM N N' := M_takes t.1 t.2.2.1 (en_le t.2.1).2
end
