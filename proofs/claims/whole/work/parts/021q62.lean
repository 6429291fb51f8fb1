/-! ===== tokens ===== -/
section
variable {M M' M1 M2 : Mem} {B : Nat → Nat} {n q i a e k : Nat} {X X' : Nat → Nat → Prop}
def Fr (X : Nat → Nat → Prop) (M M' : Mem) : Prop := M'.1 = M.1 ∧ mP M' = mP M ∧ mS M' = mS M ∧ (∀ k, k ≠ 67 → mL M' k = mL M k) ∧ ∀ k j, ¬ X k j → mI M' k j = mI M k j
theorem Fr.rfl' : Fr X M M := ⟨rfl, rfl, rfl, fun _ _ => rfl, fun _ _ _ => rfl⟩
theorem Fr.trans (h : Fr X M M1) (h' : Fr X M1 M2) : Fr X M M2 := ⟨h'.1.trans h.1, h'.2.1.trans h.2.1, h'.2.2.1.trans h.2.2.1, fun k hk => (h'.2.2.2.1 k hk).trans (h.2.2.2.1 k hk), fun k j hk => (h'.2.2.2.2 k j hk).trans (h.2.2.2.2 k j hk)⟩
theorem Fr.mono (h : Fr X M M') (hX : ∀ k j, X k j → X' k j) : Fr X' M M' := ⟨h.1, h.2.1, h.2.2.1, h.2.2.2.1, fun k j z => h.2.2.2.2 k j fun y => z (hX k j y)⟩
theorem Fr.st {b j : Nat} {v : Int32} (h : Fr X M M') (hX : X b j) : Fr X M (stI M' b j v) := ⟨h.1, h.2.1, h.2.2.1, h.2.2.2.1, fun k i z => by
  rw [mI_st, if_neg (fun y => z (by rw [y.1, y.2]; exact hX))]; exact h.2.2.2.2 k i z⟩
theorem Fr.stL {j : Nat} {v : Int64} (h : Fr X M M') : Fr X M (stL M' 67 j v) := ⟨h.1, h.2.1, h.2.2.1, fun k hk => by rw [← h.2.2.2.1 k hk]; funext i; rw [mL_stL, if_neg (fun z => hk z.1)], h.2.2.2.2⟩
theorem Lay.fr (h : Lay M) (w : Fr X M M') : Lay M' := by unfold Lay; rw [w.1, w.2.1]; exact h
theorem Fr.at (w : Fr X M M') {k j : Nat} (h : ¬ X k j) : mI M' k j = mI M k j := w.2.2.2.2 k j h
theorem neL0 {a : Nat} (h : ¬ a = 0) (ha : a < 2 ^ 31) : ¬ nI a = (0 : Int32) := fun y => h ((nI_eq (b := 0) ha (by omega)).mp y)
theorem neL1 {a : Nat} (h : ¬ a = 1) (ha : a < 2 ^ 31) : ¬ nI a = (1 : Int32) := fun y => h ((nI_eq (b := 1) ha (by omega)).mp y)
theorem neL2 {a : Nat} (h : ¬ a = 2) (ha : a < 2 ^ 31) : ¬ nI a = (2 : Int32) := fun y => h ((nI_eq (b := 2) ha (by omega)).mp y)
theorem neL3 {a : Nat} (h : ¬ a = 3) (ha : a < 2 ^ 31) : ¬ nI a = (3 : Int32) := fun y => h ((nI_eq (b := 3) ha (by omega)).mp y)
theorem neL4 {a : Nat} (h : ¬ a = 4) (ha : a < 2 ^ 31) : ¬ nI a = (4 : Int32) := fun y => h ((nI_eq (b := 4) ha (by omega)).mp y)
theorem neL5 {a : Nat} (h : ¬ a = 5) (ha : a < 2 ^ 31) : ¬ nI a = (5 : Int32) := fun y => h ((nI_eq (b := 5) ha (by omega)).mp y)
theorem neL6 {a : Nat} (h : ¬ a = 6) (ha : a < 2 ^ 31) : ¬ nI a = (6 : Int32) := fun y => h ((nI_eq (b := 6) ha (by omega)).mp y)
theorem neL10 {a : Nat} (h : ¬ a = 10) (ha : a < 2 ^ 31) : ¬ nI a = (10 : Int32) := fun y => h ((nI_eq (b := 10) ha (by omega)).mp y)
theorem neL32 {a : Nat} (h : ¬ a = 32) (ha : a < 2 ^ 31) : ¬ nI a = (32 : Int32) := fun y => h ((nI_eq (b := 32) ha (by omega)).mp y)
theorem mI_se {a j : Nat} {v : Int32} : mI (stI M a j v) a j = v := by rw [mI_st, if_pos ⟨rfl, rfl⟩]
theorem mI_sn {a j k i : Nat} {v : Int32} (h : ¬ (k = a ∧ i = j)) : mI (stI M a j v) k i = mI M k i := by rw [mI_st, if_neg h]
/-- the kind of a byte: 1 blank, 2 letter, 3 digit, 4 else -/
def bk (c : Nat) : Nat := if c = 32 ∨ c = 10 then 1 else if 97 ≤ c ∧ c ≤ 122 then 2 else if 48 ≤ c ∧ c ≤ 57 then 3 else 4
def kdT (B : Nat → Nat) (n i : Nat) : Nat := if i < n then bk (B i) else 0
noncomputable def plT (B : Nat → Nat) (n q : Nat) : Nat := fsN (fun i => kdT B n i ≠ 1) (n - q) q
noncomputable def enT (B : Nat → Nat) (n q : Nat) : Nat := if kdT B n (plT B n q) = 0 then plT B n q else if kdT B n (plT B n q) = 4 then plT B n q + 1 else fsN (fun i => kdT B n i ≠ kdT B n (plT B n q)) (n - (plT B n q + 1)) (plT B n q + 1)
theorem bk_4 (c : Nat) : 1 ≤ bk c ∧ bk c ≤ 4 := by unfold bk; split; omega; split; omega; split <;> omega
theorem kd_0 : kdT B n i = 0 ↔ n ≤ i := by
  unfold kdT
  by_cases h : i < n
  · rw [if_pos h]; have := bk_4 (B i); omega
  · rw [if_neg h]; omega
theorem kd_4 : kdT B n i ≤ 4 := by
  unfold kdT
  split
  · exact (bk_4 _).2
  · omega
theorem fs_u {P : Nat → Prop} {m i a : Nat} (h1 : i ≤ a) (h2 : a ≤ i + m) (h3 : ∀ k, i ≤ k → k < a → ¬ P k) (h4 : a < i + m → P a) : fsN P m i = a := by
  have b := fsN_le (P := P) m i
  by_cases c : fsN P m i < a
  · exact absurd (fsN_at m i (by omega)) (h3 _ b.1 c)
  · by_cases d : a < fsN P m i
    · exact absurd (h4 (by omega)) (fsN_lt m i a h1 d)
    · omega
theorem pl_u (hq : q ≤ a) (ha : a ≤ n) (h : ∀ i, q ≤ i → i < a → kdT B n i = 1) (h' : kdT B n a ≠ 1) : plT B n q = a := fs_u hq (by omega) (fun k h1 h2 z => z (h k h1 h2)) (fun _ => h')
theorem pl_le (hq : q ≤ n) : q ≤ plT B n q ∧ plT B n q ≤ n := by
  have := fsN_le (P := fun i => kdT B n i ≠ 1) (n - q) q
  unfold plT; omega
theorem pl_nb (hq : q ≤ n) : kdT B n (plT B n q) ≠ 1 := by
  by_cases c : plT B n q < n
  · exact fsN_at (P := fun i => kdT B n i ≠ 1) (n - q) q (by unfold plT at c; omega)
  · rw [kd_0.mpr (by omega)]; omega
theorem en_u (h0 : kdT B n (plT B n q) ≠ 0) (h4 : kdT B n (plT B n q) ≠ 4) (h1 : plT B n q + 1 ≤ e) (h2 : e ≤ n) (h : ∀ i, plT B n q + 1 ≤ i → i < e → kdT B n i = kdT B n (plT B n q)) (h' : kdT B n e ≠ kdT B n (plT B n q)) : enT B n q = e := by
  unfold enT
  rw [if_neg h0, if_neg h4]
  exact fs_u h1 (by omega) (fun k y1 y2 z => z (h k y1 y2)) (fun _ => h')
theorem en_le (hq : q ≤ n) : plT B n q ≤ enT B n q ∧ enT B n q ≤ n := by
  have p := pl_le (B := B) hq
  unfold enT
  by_cases c : kdT B n (plT B n q) = 0
  · rw [if_pos c]; omega
  · have : plT B n q < n := by
      by_cases d : plT B n q < n
      · exact d
      · exact absurd (kd_0.mpr (by omega)) c
    rw [if_neg c]
    by_cases d : kdT B n (plT B n q) = 4
    · rw [if_pos d]; omega
    · rw [if_neg d]
      have := fsN_le (P := fun i => kdT B n i ≠ kdT B n (plT B n q)) (n - (plT B n q + 1)) (plT B n q + 1)
      omega
theorem en_lt (hq : q ≤ n) (c : kdT B n (plT B n q) ≠ 0) : plT B n q < enT B n q := by
  have p := pl_le (B := B) hq
  unfold enT
  rw [if_neg c]
  by_cases d : kdT B n (plT B n q) = 4
  · rw [if_pos d]; omega
  · rw [if_neg d]
    have := fsN_le (P := fun i => kdT B n i ≠ kdT B n (plT B n q)) (n - (plT B n q + 1)) (plT B n q + 1)
    omega
theorem en_in (hq : q ≤ n) (h1 : plT B n q ≤ i) (h2 : i < enT B n q) : kdT B n i = kdT B n (plT B n q) := by
  by_cases e : i = plT B n q
  · rw [e]
  · unfold enT at h2
    split at h2
    · omega
    · split at h2
      · omega
      · have := fsN_lt (P := fun i => kdT B n i ≠ kdT B n (plT B n q)) (n - (plT B n q + 1)) (plT B n q + 1) i (by omega) h2
        exact Classical.byContradiction this
/-- the number that digits tell -/
def nvL (B : Nat → Nat) (a : Nat) : Nat → Nat
  | 0 => 0
  | k + 1 => 10 * nvL B a k + (B (a + k) - 48)
noncomputable def numT (B : Nat → Nat) (n q : Nat) : Int32 := if 4 < enT B n q - plT B n q then -1 else nI (nvL B (plT B n q) (enT B n q - plT B n q))
theorem nv_b (h : ∀ j, j < k → bk (B (a + j)) = 3) (hk : k ≤ 4) : nvL B a k ≤ 9999 := by
  have s : ∀ j, j < k → nvL B a (j + 1) ≤ 10 * nvL B a j + 9 := fun j hj => by
    have := h j hj
    unfold bk at this
    show 10 * nvL B a j + (B (a + j) - 48) ≤ _
    split at this
    · omega
    · split at this
      · omega
      · split at this
        · omega
        · omega
  have z : nvL B a 0 = 0 := rfl
  have s0 : 0 < k → nvL B a 1 ≤ 10 * nvL B a 0 + 9 := s 0
  have s1 : 1 < k → nvL B a 2 ≤ 10 * nvL B a 1 + 9 := s 1
  have s2 : 2 < k → nvL B a 3 ≤ 10 * nvL B a 2 + 9 := s 2
  have s3 : 3 < k → nvL B a 4 ≤ 10 * nvL B a 3 + 9 := s 3
  have : k = 0 ∨ k = 1 ∨ k = 2 ∨ k = 3 ∨ k = 4 := by omega
  rcases this with rfl | rfl | rfl | rfl | rfl
  · omega
  · have := s0 (by omega); omega
  · have := s0 (by omega); have := s1 (by omega); omega
  · have := s0 (by omega); have := s1 (by omega); have := s2 (by omega); omega
  · have := s0 (by omega); have := s1 (by omega); have := s2 (by omega); have := s3 (by omega); omega
-- the class reads them
def kbF (x : Int32) : Int32 := if x = 32 then 1 else if x = 10 then 1 else if x < 97 then (if x < 48 then 4 else if 57 < x then 4 else 3) else if 122 < x then (if x < 48 then 4 else if 57 < x then 4 else 3) else 2
theorem kb_t : ∀ b, b < 256 → kbF (nby (nI b)) = nI (bk b) := by decide +kernel
def TxC (B : Nat → Nat) (n : Nat) (M : Mem) : Prop := Lay M ∧ n ≤ 700 ∧ (∀ i, i < n → B i < 256) ∧ mI M 1 2 = nI n ∧ ∀ i, i < n → mI M 2 i = nby (nI (B i))
def XA (k j : Nat) : Prop := k = 1 ∧ 5 ≤ j ∧ j ≤ 8
theorem TxC.fr (t : TxC B n M) (w : Fr X M M') (h1 : ¬ X 1 2) (h2 : ∀ i, ¬ X 2 i) : TxC B n M' := ⟨t.1.fr w, t.2.1, t.2.2.1, (w.at h1).trans t.2.2.2.1, fun i hi => (w.at (h2 i)).trans (t.2.2.2.2 i hi)⟩
theorem TxC.fa (t : TxC B n M) (w : Fr XA M M') : TxC B n M' := t.fr w (by unfold XA; omega) (fun i => by unfold XA; omega)
theorem C_kind (t : TxC B n M) (hi : i < 2 ^ 31) : F_X3_kindAt 1 (nI i) M = some (nI (kdT B n i)) := by
  have hn := t.2.1
  unfold F_X3_kindAt kdT
  rw [if_neg (show ¬ nI i < 0 from nI_nlt (b := 0) (by omega) (by omega)), Lf_1 t.1, ob_t, t.2.2.2.1]
  by_cases c : i < n
  · rw [if_pos (nI_lt c (by omega)), if_pos c, Lp_1_0 t.1, ob_t, La_2 t.1 (by omega), ob_t, t.2.2.2.2 i c, ← kb_t _ (t.2.2.1 i c)]
    unfold F_X3_kindAt_j49 kbF
    repeat' split
    all_goals first | rfl | contradiction
  · rw [if_neg (nI_nlt (by omega) (by omega)), if_neg c]; rfl
theorem C_skip (t : TxC B n M) (h6 : mI M 1 6 = nI q) (hq : q ≤ n) : ∃ M', loop (fun s => F_X3_advance_s8 1 s) M = some M' ∧ mI M' 1 6 = nI (plT B n q) ∧ Fr XA M M' := by
  have hn := t.2.1
  refine loop_ex (step := fun s => F_X3_advance_s8 1 s) (fun k M' => mI M' 1 6 = nI (q + k) ∧ (∀ j, q ≤ j → j < q + k → kdT B n j = 1) ∧ Fr XA M M') _ (n - q) ?_ ⟨h6, fun j h1 h2 => by omega, Fr.rfl'⟩
  rintro k M' hk ⟨z1, z2, w⟩
  have t' := t.fa w
  unfold F_X3_advance_s8
  rw [Lf_1 t'.1, ob_t, Lf_1 t'.1, ob_t, z1, t'.2.2.2.1]
  by_cases c : n ≤ q + k
  · rw [if_pos (nI_le c (by omega))]
    exact Or.inl ⟨M', rfl, by rw [z1, pl_u (by omega) (by omega) z2 (by rw [kd_0.mpr c]; omega)], w⟩
  · rw [if_neg (nI_ge (by omega) (by omega)), ob_t, Lc_1 t'.1, C_kind t' (by omega), ob_t]
    by_cases d : kdT B n (q + k) = 1
    · rw [if_pos (by rw [d]; rfl), ob_t, Ls_1 t'.1, ob_t, nI_1]
      refine Or.inr ⟨by omega, _, rfl, by rw [mI_st, if_pos ⟨rfl, rfl⟩]; rfl, fun j h1 h2 => ?_, w.st (by unfold XA; omega)⟩
      by_cases e : j = q + k
      · rw [e]; exact d
      · exact z2 j h1 (by omega)
    · rw [if_neg (neL1 d (by have := kd_4 (B := B) (n := n) (i := q + k); omega))]
      exact Or.inl ⟨M', rfl, by rw [z1, pl_u (by omega) (by omega) z2 d], w⟩
theorem C_run {a : Nat} (t : TxC B n M) (ha : a = plT B n q) (hq : q ≤ n) (h5 : mI M 1 5 = nI (kdT B n a)) (h7 : mI M 1 7 = nI (if kdT B n a = 0 then a else a + 1)) : ∃ M', loop (fun s => F_X3_advance_s80 1 s) M = some M' ∧ mI M' 1 7 = nI (enT B n q) ∧ Fr XA M M' ∧ ∀ j, j ≠ 7 → mI M' 1 j = mI M 1 j := by
  have hn := t.2.1
  have pl := pl_le (B := B) hq
  have k4 := kd_4 (B := B) (n := n) (i := a)
  by_cases k0 : kdT B n a = 0
  · refine ⟨M, loop_end ?_, ?_, Fr.rfl', fun _ _ => rfl⟩
    · unfold F_X3_advance_s80
      rw [Lf_1 t.1, ob_t, Lf_1 t.1, ob_t, h7, if_pos k0, t.2.2.2.1, if_pos (nI_le (kd_0.mp k0) (by omega))]
    · rw [h7, if_pos k0]; unfold enT; rw [← ha, if_pos k0]
  · have an : a < n := by
      by_cases d : a < n
      · exact d
      · exact absurd (kd_0.mpr (by omega)) k0
    rw [if_neg k0] at h7
    by_cases k4' : kdT B n a = 4
    · have key : F_X3_advance_s80 1 M = some (.inr M) := by
        unfold F_X3_advance_s80
        rw [Lf_1 t.1, ob_t, Lf_1 t.1, ob_t, h7, t.2.2.2.1]
        by_cases c : n ≤ a + 1
        · rw [if_pos (nI_le c (by omega))]
        · rw [if_neg (nI_ge (by omega) (by omega)), ob_t, Lc_1 t.1, C_kind t (by omega), ob_t, Lf_1 t.1, ob_t, h5, ob_t, k4']
          by_cases d : kdT B n (a + 1) = 4
          · rw [d, if_pos rfl, if_pos (show nI 4 = (4 : Int32) from rfl)]
          · rw [if_neg (fun y => d ((nI_eq (by have := kd_4 (B := B) (n := n) (i := a + 1); omega) (by omega)).mp y))]
      refine ⟨M, loop_end key, ?_, Fr.rfl', fun _ _ => rfl⟩
      rw [h7]; unfold enT; rw [← ha, if_neg k0, if_pos k4']
    · refine loop_ex (step := fun s => F_X3_advance_s80 1 s) (fun k M' => mI M' 1 7 = nI (a + 1 + k) ∧ (∀ j, a + 1 ≤ j → j < a + 1 + k → kdT B n j = kdT B n a) ∧ Fr XA M M' ∧ ∀ j, j ≠ 7 → mI M' 1 j = mI M 1 j) _ (n - (a + 1)) ?_ ⟨h7, fun j h1 h2 => by omega, Fr.rfl', fun _ _ => rfl⟩
      rintro k M' hk ⟨z1, z2, w, z3⟩
      have t' := t.fa w
      have h5' : mI M' 1 5 = nI (kdT B n a) := (z3 5 (by omega)).trans h5
      unfold F_X3_advance_s80
      rw [Lf_1 t'.1, ob_t, Lf_1 t'.1, ob_t, z1, t'.2.2.2.1]
      by_cases c : n ≤ a + 1 + k
      · rw [if_pos (nI_le c (by omega))]
        refine Or.inl ⟨M', rfl, ?_, w, z3⟩
        rw [z1, en_u (q := q) (e := a + 1 + k) (by rw [← ha]; exact k0) (by rw [← ha]; exact k4') (by omega) (by omega) (by rw [← ha]; exact z2) (by rw [← ha, kd_0.mpr c]; exact fun y => k0 y.symm)]
      · rw [if_neg (nI_ge (by omega) (by omega)), ob_t, Lc_1 t'.1, C_kind t' (by omega), ob_t, Lf_1 t'.1, ob_t, h5']
        by_cases d : kdT B n (a + 1 + k) = kdT B n a
        · rw [if_pos (by rw [d]), ob_t, if_neg (neL4 k4' (by omega)), ob_t, Ls_1 t'.1, ob_t, nI_1]
          refine Or.inr ⟨by omega, _, rfl, by rw [mI_st, if_pos ⟨rfl, rfl⟩]; rfl, fun j h1 h2 => ?_, w.st (by unfold XA; omega), fun j hj => by rw [mI_st, if_neg (fun y => hj y.2)]; exact z3 j hj⟩
          by_cases e : j = a + 1 + k
          · rw [e]; exact d
          · exact z2 j h1 (by omega)
        · rw [if_neg (fun y => d ((nI_eq (by have := kd_4 (B := B) (n := n) (i := a + 1 + k); omega) (by omega)).mp y))]
          refine Or.inl ⟨M', rfl, ?_, w, z3⟩
          rw [z1, en_u (q := q) (e := a + 1 + k) (by rw [← ha]; exact k0) (by rw [← ha]; exact k4') (by omega) (by omega) (by rw [← ha]; exact z2) (by rw [← ha]; exact d)]
theorem dg_t : ∀ b, b < 256 → bk b = 3 → 48 ≤ b ∧ nby (nI b) = nI b := by decide +kernel
theorem C_num (t : TxC B n M) (hq : q ≤ n) (h6 : mI M 1 6 = nI (plT B n q)) (h5 : mI M 1 5 = nI (kdT B n (plT B n q))) (h7 : mI M 1 7 = nI (enT B n q)) : ∃ M', F_X3_advance_j127 1 M = some M' ∧ (kdT B n (plT B n q) = 3 → mI M' 1 8 = numT B n q) ∧ Fr XA M M' ∧ ∀ j, j ≠ 8 → mI M' 1 j = mI M 1 j := by
  have hn := t.2.1
  have pl := pl_le (B := B) hq
  have en := en_le (B := B) hq
  generalize ha : plT B n q = a at *
  generalize he : enT B n q = e at *
  have sub : nI e - nI a = nI (e - a) := nI_sub en.1
  have core : ∀ v : Int32, ∃ M', loop (fun s : Int32 × Mem => F_X3_advance_s154 1 s.1 s.2) (nI a, stI M 1 8 v) = some M' ∧ (kdT B n a = 3 → mI M' 1 8 = (if v = -1 then -1 else if v = 0 ∧ e - a ≤ 4 then nI (nvL B a (e - a)) else mI M' 1 8)) ∧ Fr XA M M' ∧ ∀ j, j ≠ 8 → mI M' 1 j = mI M 1 j := fun v => by
    have w0 : Fr XA M (stI M 1 8 v) := Fr.rfl'.st (by unfold XA; omega)
    have o0 : ∀ j, j ≠ 8 → mI (stI M 1 8 v) 1 j = mI M 1 j := fun j hj => by rw [mI_st, if_neg (fun y => hj y.2)]
    have v0 : mI (stI M 1 8 v) 1 8 = v := by rw [mI_st, if_pos ⟨rfl, rfl⟩]
    have t0 := t.fa w0
    by_cases k3 : kdT B n a = 3
    · by_cases vm : v = -1
      · refine ⟨stI M 1 8 v, loop_end ?_, fun _ => by rw [if_pos vm, v0, vm], w0, o0⟩
        dsimp only
        unfold F_X3_advance_s154
        rw [Lf_1 t0.1, ob_t, o0 7 (by omega), h7]
        by_cases c : e ≤ a
        · rw [if_pos (nI_le c (by omega))]
        · rw [if_neg (nI_ge (by omega) (by omega)), Lf_1 t0.1, ob_t, o0 5 (by omega), h5, k3, if_pos (show nI 3 = (3 : Int32) from rfl), Lf_1 t0.1, ob_t, v0, if_pos vm]
      · by_cases vz : v = 0 ∧ e - a ≤ 4
        · obtain ⟨M', e1, z1, w, z3⟩ := loop_ex (step := fun s : Int32 × Mem => F_X3_advance_s154 1 s.1 s.2) (fun k s => s.1 = nI (a + k) ∧ mI s.2 1 8 = nI (nvL B a k) ∧ Fr XA M s.2 ∧ ∀ j, j ≠ 8 → mI s.2 1 j = mI M 1 j) (fun M' => mI M' 1 8 = nI (nvL B a (e - a)) ∧ Fr XA M M' ∧ ∀ j, j ≠ 8 → mI M' 1 j = mI M 1 j) (e - a) (by
            rintro k ⟨i, M'⟩ hk ⟨z1, z2, w, z3⟩
            dsimp only at z1 z2 w z3
            subst z1
            have t' := t.fa w
            have dg : ∀ j, j < e - a → kdT B n (a + j) = 3 := fun j hj => by rw [← k3, ← ha]; exact en_in hq (by omega) (by omega)
            have bd : ∀ j, j < e - a → bk (B (a + j)) = 3 := fun j hj => by
              have := dg j hj
              unfold kdT at this
              rw [if_pos (by omega)] at this; exact this
            have nb := nv_b (B := B) (a := a) (k := k) (fun j hj => bd j (by omega)) (by omega)
            unfold F_X3_advance_s154
            dsimp only
            rw [Lf_1 t'.1, ob_t, z3 7 (by omega), h7]
            by_cases c : e ≤ a + k
            · rw [if_pos (nI_le c (by omega))]
              exact Or.inl ⟨M', rfl, by rw [z2, show k = e - a by omega], w, z3⟩
            · have hb := dg_t (B (a + k)) (t.2.2.1 _ (by omega)) (bd k (by omega))
              rw [if_neg (nI_ge (by omega) (by omega)), Lf_1 t'.1, ob_t, z3 5 (by omega), h5, k3, if_pos (show nI 3 = (3 : Int32) from rfl), Lf_1 t'.1, ob_t, z2, if_neg (nI_nm1 (by omega)), ob_t, Lp_1_0 t'.1, ob_t, La_2 t'.1 (by omega), ob_t, t'.2.2.2.2 _ (by omega), hb.2, Ls_1 t'.1, ob_t, nI_1, show nI (nvL B a k) * (10 : Int32) = nI (nvL B a k * 10) from nI_mul (b := 10), nI_add, show nI (nvL B a k * 10 + B (a + k)) - (48 : Int32) = nI (nvL B a k * 10 + B (a + k) - 48) from nI_sub (b := 48) (by omega)]
              refine Or.inr ⟨by omega, _, rfl, rfl, ?_, w.st (by unfold XA; omega), fun j hj => by rw [mI_st, if_neg (fun y => hj y.2)]; exact z3 j hj⟩
              rw [mI_st, if_pos ⟨rfl, rfl⟩]
              show _ = nI (10 * nvL B a k + (B (a + k) - 48))
              congr 1; omega) (s := (nI a, stI M 1 8 v)) ⟨rfl, by rw [v0, vz.1]; rfl, w0, o0⟩
          exact ⟨M', e1, fun _ => by rw [if_neg vm, if_pos vz, z1], w, z3⟩
        · obtain ⟨M', e1, w, z3⟩ := loop_ex (step := fun s : Int32 × Mem => F_X3_advance_s154 1 s.1 s.2) (fun k s => s.1 = nI (a + k) ∧ Fr XA M s.2 ∧ ∀ j, j ≠ 8 → mI s.2 1 j = mI M 1 j) (fun M' => Fr XA M M' ∧ ∀ j, j ≠ 8 → mI M' 1 j = mI M 1 j) (e - a) (by
            rintro k ⟨i, M'⟩ hk ⟨z1, w, z3⟩
            dsimp only at z1 w z3
            subst z1
            have t' := t.fa w
            unfold F_X3_advance_s154
            dsimp only
            rw [Lf_1 t'.1, ob_t, z3 7 (by omega), h7]
            by_cases c : e ≤ a + k
            · rw [if_pos (nI_le c (by omega))]
              exact Or.inl ⟨M', rfl, w, z3⟩
            · rw [if_neg (nI_ge (by omega) (by omega)), Lf_1 t'.1, ob_t, z3 5 (by omega), h5, k3, if_pos (show nI 3 = (3 : Int32) from rfl), Lf_1 t'.1, ob_t]
              by_cases d : mI M' 1 8 = -1
              · rw [if_pos d]; exact Or.inl ⟨M', rfl, w, z3⟩
              · rw [if_neg d, ob_t, Lp_1_0 t'.1, ob_t, La_2 t'.1 (by omega), ob_t, Ls_1 t'.1, ob_t, nI_1]
                exact Or.inr ⟨by omega, _, rfl, rfl, w.st (by unfold XA; omega), fun j hj => by rw [mI_st, if_neg (fun y => hj y.2)]; exact z3 j hj⟩) (s := (nI a, stI M 1 8 v)) ⟨rfl, w0, o0⟩
          exact ⟨M', e1, fun _ => by rw [if_neg vm, if_neg vz], w, z3⟩
    · refine ⟨stI M 1 8 v, loop_end ?_, fun y => absurd y k3, w0, o0⟩
      dsimp only
      unfold F_X3_advance_s154
      rw [Lf_1 t0.1, ob_t, o0 7 (by omega), h7]
      by_cases c : e ≤ a
      · rw [if_pos (nI_le c (by omega))]
      · rw [if_neg (nI_ge (by omega) (by omega)), Lf_1 t0.1, ob_t, o0 5 (by omega), h5, if_neg (neL3 k3 (by have := kd_4 (B := B) (n := n) (i := a); omega))]
  unfold F_X3_advance_j127 numT
  rw [Lf_1 t.1, ob_t, Lf_1 t.1, ob_t, h7, h6, sub, ha, he]
  by_cases c : e - a ≤ 4
  · obtain ⟨M', e1, z, w, o⟩ := core 0
    rw [if_pos (show nI (e - a) ≤ (4 : Int32) from nI_le (b := 4) c (by omega)), Ls_1 t.1, ob_t, Lf_1 (t.1.st), ob_t, mI_st, if_neg (by omega), h6, e1, ob_t]
    refine ⟨M', rfl, fun y => ?_, w, o⟩
    rw [z y, if_neg (by decide), if_pos ⟨rfl, c⟩, if_neg (by omega)]
  · obtain ⟨M', e1, z, w, o⟩ := core (-1)
    rw [if_neg (show ¬ nI (e - a) ≤ (4 : Int32) from nI_ge (a := 4) (by omega) (by omega)), Ls_1 t.1, ob_t, Lf_1 (t.1.st), ob_t, mI_st, if_neg (by omega), h6, e1, ob_t]
    refine ⟨M', rfl, fun y => ?_, w, o⟩
    rw [z y, if_pos rfl, if_pos (by omega)]
/-- the token that begins behind q is the one that the class looks at -/
def TkC (B : Nat → Nat) (n q : Nat) (M : Mem) : Prop := TxC B n M ∧ q ≤ n ∧ mI M 1 6 = nI (plT B n q) ∧ mI M 1 7 = nI (enT B n q) ∧ mI M 1 5 = nI (kdT B n (plT B n q)) ∧ (kdT B n (plT B n q) = 3 → mI M 1 8 = numT B n q)
theorem C_advance (t : TxC B n M) (h7 : mI M 1 7 = nI q) (hq : q ≤ n) : ∃ M', F_X3_advance 1 M = some M' ∧ TkC B n q M' ∧ Fr XA M M' := by
  have w0 : Fr XA M (stI M 1 6 (nI q)) := Fr.rfl'.st (by unfold XA; omega)
  obtain ⟨M1, e1, z1, w1⟩ := C_skip (t.fa w0) (q := q) (by rw [mI_st, if_pos ⟨rfl, rfl⟩]) hq
  have w1' := w0.trans w1
  have t1 := t.fa w1'
  have pl := pl_le (B := B) hq
  have hn := t.2.1
  have fin : ∀ (b : Nat), b = (if kdT B n (plT B n q) = 0 then plT B n q else plT B n q + 1) → ∃ M2, loop (fun s => F_X3_advance_s80 1 s) (stI (stI M1 1 5 (nI (kdT B n (plT B n q)))) 1 7 (nI b)) = some M2 ∧ ∃ M3, F_X3_advance_j127 1 M2 = some M3 ∧ TkC B n q M3 ∧ Fr XA M M3 := fun b hb => by
    have w2 : Fr XA M (stI (stI M1 1 5 (nI (kdT B n (plT B n q)))) 1 7 (nI b)) := (w1'.st (by unfold XA; omega)).st (by unfold XA; omega)
    obtain ⟨M2, e2, z2, w2', o2⟩ := C_run (t.fa w2) (a := plT B n q) rfl hq (by rw [mI_st, if_neg (by omega), mI_st, if_pos ⟨rfl, rfl⟩]) (by rw [mI_st, if_pos ⟨rfl, rfl⟩, hb])
    have w3 := w2.trans w2'
    have h6 : mI M2 1 6 = nI (plT B n q) := by rw [o2 6 (by omega), mI_st, if_neg (by omega), mI_st, if_neg (by omega)]; exact z1
    have h5 : mI M2 1 5 = nI (kdT B n (plT B n q)) := by rw [o2 5 (by omega), mI_st, if_neg (by omega), mI_st, if_pos ⟨rfl, rfl⟩]
    obtain ⟨M3, e3, z3, w3', o3⟩ := C_num (t.fa w3) hq h6 h5 z2
    exact ⟨M2, e2, M3, e3, ⟨t.fa (w3.trans w3'), hq, (o3 6 (by omega)).trans h6, (o3 7 (by omega)).trans z2, (o3 5 (by omega)).trans h5, z3⟩, w3.trans w3'⟩
  unfold F_X3_advance
  rw [Lf_1 t.1, ob_t, h7, Ls_1 t.1, ob_t, e1, ob_t]
  unfold F_X3_advance_j44
  rw [Lf_1 t1.1, ob_t, Lc_1 t1.1, z1, C_kind t1 (by omega), ob_t, Ls_1 t1.1, ob_t, Lf_1 t1.1.st, ob_t, mI_se]
  by_cases k0 : kdT B n (plT B n q) = 0
  · obtain ⟨M2, e2, M3, e3, h⟩ := fin (plT B n q) (by rw [if_pos k0])
    rw [if_pos (by rw [k0]; rfl), Lf_1 t1.1.st, ob_t, mI_st, if_neg (by omega), z1, Ls_1 t1.1.st, ob_t, e2, ob_t]
    exact ⟨M3, e3, h⟩
  · obtain ⟨M2, e2, M3, e3, h⟩ := fin (plT B n q + 1) (by rw [if_neg k0])
    rw [if_neg (neL0 k0 (by have := kd_4 (B := B) (n := n) (i := plT B n q); omega)), Lf_1 t1.1.st, ob_t, mI_st, if_neg (by omega), z1, nI_1, Ls_1 t1.1.st, ob_t, e2, ob_t]
    exact ⟨M3, e3, h⟩
theorem TkC.adv (t : TkC B n q M) : ∃ M', F_X3_advance 1 M = some M' ∧ TkC B n (enT B n q) M' ∧ Fr XA M M' := C_advance t.1 t.2.2.2.1 (en_le t.2.1).2
end
