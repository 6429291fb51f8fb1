/-! ===== tokens: what they are; the class asks ===== -/
section
variable {M M' M1 M2 : Mem} {B : Nat → Nat} {n q i a e k : Nat} {X X' : Nat → Nat → Prop}
noncomputable def WNT (B : Nat → Nat) (n q : Nat) : List Nat := (List.range (enT B n q - plT B n q)).map fun i => B (plT B n q + i)
def SPN (k : Nat) : List Nat := (strB.getD k []).map Int32.toNatClampNeg
/-- 0 the end, 1..15 a word that is known, 16 another, 17 a number that is too long, 1000 + v a number, 20 + c a sign -/
noncomputable def cdT (B : Nat → Nat) (n q : Nat) : Nat := if kdT B n (plT B n q) = 0 then 0 else if kdT B n (plT B n q) = 2 then fsN (fun k => WNT B n q = SPN k) 15 1 else if kdT B n (plT B n q) = 3 then (if 4 < enT B n q - plT B n q then 17 else 1000 + nvL B (plT B n q) (enT B n q - plT B n q)) else 20 + B (plT B n q)
theorem spn_u : ∀ j, j < 16 → ∀ k, k < 16 → j ≠ k → SPN j ≠ SPN k := by decide +kernel
theorem cd_2 (h : kdT B n (plT B n q) = 2) : 1 ≤ cdT B n q ∧ cdT B n q ≤ 16 := by
  unfold cdT
  rw [if_neg (by omega), if_pos h]
  have := fsN_le (P := fun k => WNT B n q = SPN k) 15 1
  omega
theorem cd_3 (hq : q ≤ n) (h : kdT B n (plT B n q) = 3) : (cdT B n q = 17 ∧ numT B n q = -1) ∨ (1000 ≤ cdT B n q ∧ cdT B n q ≤ 10999 ∧ enT B n q - plT B n q ≤ 4 ∧ cdT B n q = 1000 + nvL B (plT B n q) (enT B n q - plT B n q) ∧ numT B n q = nI (cdT B n q - 1000)) := by
  unfold cdT numT
  rw [if_neg (by omega), if_neg (by omega), if_pos h]
  by_cases c : 4 < enT B n q - plT B n q
  · rw [if_pos c]; exact Or.inl ⟨rfl, if_pos c⟩
  · rw [if_neg c, if_neg c]
    have en := en_le (B := B) hq
    have := nv_b (B := B) (a := plT B n q) (k := enT B n q - plT B n q) (fun j hj => by
      have z := en_in (B := B) (n := n) (q := q) (i := plT B n q + j) hq (by omega) (by omega)
      rw [h] at z
      unfold kdT at z
      rw [if_pos (by omega)] at z; exact z) (by omega)
    exact Or.inr ⟨by omega, by omega, by omega, rfl, by rw [Nat.add_sub_cancel_left]⟩
theorem cd_4 (h : kdT B n (plT B n q) = 4) : cdT B n q = 20 + B (plT B n q) := by
  unfold cdT
  rw [if_neg (by omega), if_neg (by omega), if_neg (by omega)]
theorem cd_0 (h : kdT B n (plT B n q) = 0) : cdT B n q = 0 := by unfold cdT; rw [if_pos h]
theorem kd_c (hq : q ≤ n) : kdT B n (plT B n q) = 0 ∨ kdT B n (plT B n q) = 2 ∨ kdT B n (plT B n q) = 3 ∨ kdT B n (plT B n q) = 4 := by
  have := pl_nb (B := B) hq
  have := kd_4 (B := B) (n := n) (i := plT B n q)
  omega
theorem pl_B (hB : ∀ i, i < n → B i < 256) (h : kdT B n (plT B n q) ≠ 0) : plT B n q < n ∧ B (plT B n q) < 256 := by
  have : plT B n q < n := by
    by_cases d : plT B n q < n
    · exact d
    · exact absurd (kd_0.mpr (by omega)) h
  exact ⟨this, hB _ this⟩
theorem cd_k0 (hq : q ≤ n) : cdT B n q = 0 ↔ kdT B n (plT B n q) = 0 := by
  refine ⟨fun h => ?_, cd_0⟩
  rcases kd_c (B := B) hq with c | c | c | c
  · exact c
  · have := cd_2 c; omega
  · have := cd_3 hq c; omega
  · have := cd_4 c; omega
theorem cd_k2 (hq : q ≤ n) : (1 ≤ cdT B n q ∧ cdT B n q ≤ 16) ↔ kdT B n (plT B n q) = 2 := by
  refine ⟨fun h => ?_, cd_2⟩
  rcases kd_c (B := B) hq with c | c | c | c
  · have := cd_0 c; omega
  · exact c
  · have := cd_3 hq c; omega
  · have := cd_4 c; omega
theorem cd_k3 (hq : q ≤ n) (hB : ∀ i, i < n → B i < 256) : (cdT B n q = 17 ∨ 1000 ≤ cdT B n q) ↔ kdT B n (plT B n q) = 3 := by
  refine ⟨fun h => ?_, fun h => by have := cd_3 hq h; omega⟩
  rcases kd_c (B := B) hq with c | c | c | c
  · have := cd_0 c; omega
  · have := cd_2 c; omega
  · exact c
  · have := cd_4 c
    have := (pl_B hB (by omega : kdT B n (plT B n q) ≠ 0)).2
    omega
theorem cd_w (hq : q ≤ n) (h1 : 1 ≤ k) (h2 : k ≤ 15) : cdT B n q = k ↔ kdT B n (plT B n q) = 2 ∧ WNT B n q = SPN k := by
  constructor
  · intro h
    have c := (cd_k2 (B := B) hq).mp (by omega)
    refine ⟨c, ?_⟩
    unfold cdT at h
    rw [if_neg (by omega), if_pos c] at h
    have := fsN_at (P := fun k => WNT B n q = SPN k) 15 1 (by omega)
    rw [h] at this; exact this
  · rintro ⟨c, w⟩
    unfold cdT
    rw [if_neg (by omega), if_pos c]
    exact fs_u h1 (by omega) (fun j j1 j2 z => spn_u j (by omega) k (by omega) (by omega) (z.symm.trans w)) (fun _ => w)
theorem spn_l : ∀ k, k < 16 → 1 ≤ k → strB.getD k [] = (SPN k).map nI ∧ 2 ≤ (SPN k).length ∧ (SPN k).length ≤ 6 ∧ ∀ x ∈ SPN k, 97 ≤ x ∧ x ≤ 122 := by decide +kernel
theorem lt_t : ∀ b, b < 256 → bk b = 2 → nby (nI b) = nI b ∧ 97 ≤ b ∧ b ≤ 122 := by decide +kernel
theorem wn_l : (WNT B n q).length = enT B n q - plT B n q := by unfold WNT; rw [List.length_map, List.length_range]
theorem wn_g (h : i < enT B n q - plT B n q) : (WNT B n q)[i]? = some (B (plT B n q + i)) := by
  unfold WNT
  rw [List.getElem?_map, List.getElem?_range h]; rfl
theorem C_len (h1 : 1 ≤ k) (h2 : k ≤ 15) : F_J0_length k = some (nI (SPN k).length) := by
  unfold F_J0_length
  rw [if_pos (by unfold nStr; omega), (spn_l k (by omega) h1).1, List.length_map]; rfl
theorem C_char (h1 : 1 ≤ k) (h2 : k ≤ 15) (hi : i < (SPN k).length) : F_J0_charAt k (nI i) = some (nI ((SPN k).getD i 0)) := by
  have l := spn_l k (by omega) h1
  unfold F_J0_charAt
  rw [nI_clamp (by omega), l.1, List.length_map, if_pos ⟨by unfold nStr; omega, fun y => by
    rcases y with y | y
    · exact nI_nlt (b := 0) (Nat.zero_le _) (by omega) y
    · omega⟩]
  congr 1
  rw [List.getD_eq_getElem?_getD, List.getD_eq_getElem?_getD, List.getElem?_map, List.getElem?_eq_getElem hi]; rfl
theorem TkC.b (t : TkC B n q M) : ∀ i, i < n → B i < 256 := t.1.2.2.1
theorem TkC.isW (t : TkC B n q M) (h1 : 1 ≤ k) (h2 : k ≤ 15) : F_X3_isWord 1 k M = some (if cdT B n q = k then 1 else 0) := by
  obtain ⟨tx, hq, h6, h7, h5, -⟩ := t
  have hn := tx.2.1
  have pl := pl_le (B := B) hq
  have en := en_le (B := B) hq
  have l := spn_l k (by omega) h1
  have zero : loop (fun s : Int32 × Int32 => F_X3_isWord_s32 1 k M s.1 s.2) ((0 : Int32), (0 : Int32)) = some 0 := loop_end (by
    dsimp only
    unfold F_X3_isWord_s32
    rw [C_len h1 h2, ob_t, if_neg (show ¬ nI (SPN k).length ≤ (0 : Int32) from nI_ge (a := 0) (by omega) (by omega)), if_pos rfl])
  unfold F_X3_isWord
  rw [Lf_1 tx.1, ob_t, h5]
  by_cases c : kdT B n (plT B n q) = 2
  · rw [if_pos (by rw [c]; rfl), Lf_1 tx.1, ob_t, Lf_1 tx.1, ob_t, C_len h1 h2, ob_t, h7, h6, nI_sub en.1]
    by_cases d : enT B n q - plT B n q = (SPN k).length
    · rw [if_pos (by rw [d])]
      obtain ⟨r, e1, z⟩ := loop_ex (step := fun s : Int32 × Int32 => F_X3_isWord_s32 1 k M s.1 s.2) (fun i s => s.2 = nI i ∧ ((s.1 = 1 ∧ ∀ j, j < i → B (plT B n q + j) = (SPN k).getD j 0) ∨ (s.1 = 0 ∧ ∃ j, j < i ∧ B (plT B n q + j) ≠ (SPN k).getD j 0))) (fun r => (r = 1 ∧ ∀ j, j < (SPN k).length → B (plT B n q + j) = (SPN k).getD j 0) ∨ (r = 0 ∧ ∃ j, j < (SPN k).length ∧ B (plT B n q + j) ≠ (SPN k).getD j 0)) (SPN k).length (by
        rintro i ⟨x, y⟩ hi ⟨z1, z2⟩
        dsimp only at z1 z2
        subst z1
        unfold F_X3_isWord_s32
        dsimp only
        rw [C_len h1 h2, ob_t]
        by_cases c1 : i = (SPN k).length
        · rw [if_pos (nI_le (by omega) (by omega))]
          refine Or.inl ⟨_, rfl, ?_⟩
          rw [← c1]; exact z2
        · rw [if_neg (nI_ge (by omega) (by omega))]
          rcases z2 with ⟨x1, x2⟩ | ⟨x1, j, x2, x3⟩
          · have lb := lt_t (B (plT B n q + i)) (tx.2.2.1 _ (by omega)) (by
              have z := en_in (B := B) (n := n) (q := q) (i := plT B n q + i) hq (by omega) (by omega)
              rw [c] at z
              unfold kdT at z
              rw [if_pos (by omega)] at z; exact z)
            have lg : (SPN k).getD i 0 < 256 := by
              rw [List.getD_eq_getElem?_getD, List.getElem?_eq_getElem (by omega)]
              have := l.2.2.2 _ (List.getElem_mem (l := SPN k) (n := i) (by omega))
              show (SPN k)[i] < 256
              omega
            rw [x1, if_neg (by decide), Lp_1_0 tx.1, ob_t, Lf_1 tx.1, ob_t, h6, nI_add, La_2 tx.1 (by omega), ob_t, C_char h1 h2 (by omega), ob_t, tx.2.2.2.2 _ (by omega), lb.1, nI_1]
            refine Or.inr ⟨by omega, ?_⟩
            by_cases q1 : B (plT B n q + i) = (SPN k).getD i 0
            · rw [if_pos (by rw [q1])]
              refine ⟨_, rfl, rfl, Or.inl ⟨rfl, fun j hj => ?_⟩⟩
              by_cases e : j = i
              · rw [e]; exact q1
              · exact x2 j (by omega)
            · rw [if_neg (fun y => q1 ((nI_eq (by omega) (by omega)).mp y))]
              exact ⟨_, rfl, rfl, Or.inr ⟨rfl, i, by omega, q1⟩⟩
          · rw [x1, if_pos rfl]
            exact Or.inl ⟨_, rfl, Or.inr ⟨rfl, j, by omega, x3⟩⟩) (s := ((1 : Int32), (0 : Int32))) ⟨rfl, Or.inl ⟨rfl, fun j hj => by omega⟩⟩
      rw [e1, ob_t]
      have iff : cdT B n q = k ↔ ∀ j, j < (SPN k).length → B (plT B n q + j) = (SPN k).getD j 0 := by
        rw [cd_w hq h1 h2]
        constructor
        · rintro ⟨-, w⟩ j hj
          have g := wn_g (B := B) (n := n) (q := q) (i := j) (by omega)
          rw [w] at g
          rw [List.getD_eq_getElem?_getD, g]; rfl
        · intro w
          refine ⟨c, List.ext_getElem? fun j => ?_⟩
          by_cases hj : j < (SPN k).length
          · rw [wn_g (by omega), w j hj, List.getD_eq_getElem?_getD, List.getElem?_eq_getElem hj]; rfl
          · rw [List.getElem?_eq_none (by rw [wn_l]; omega), List.getElem?_eq_none (by omega)]
      rcases z with ⟨x1, x2⟩ | ⟨x1, j, x2, x3⟩
      · rw [x1, if_pos (iff.mpr x2)]; rfl
      · rw [x1, if_neg (fun y => x3 (iff.mp y j x2))]; rfl
    · rw [if_neg (fun y => d ((nI_eq (by omega) (by omega)).mp y)), zero, ob_t, if_neg (fun y => d (by
        have := (cd_w hq h1 h2).mp y
        rw [← wn_l, this.2]))]; rfl
  · rw [if_neg (neL2 c (by have := kd_4 (B := B) (n := n) (i := plT B n q); omega)), zero, ob_t, if_neg (fun y => c ((cd_w hq h1 h2).mp y).1)]; rfl
theorem sg_t : ∀ b, b < 256 → ∀ c, c < 128 → (nby (nI b) = nI c ↔ b = c) := by decide +kernel
theorem TkC.isS {c : Nat} (t : TkC B n q M) (h1 : bk c = 4) (h2 : c < 128) : F_X3_isSign 1 (nI c) M = some (if cdT B n q = 20 + c then 1 else 0) := by
  obtain ⟨tx, hq, h6, h7, h5, -⟩ := t
  have hn := tx.2.1
  unfold F_X3_isSign
  rw [Lf_1 tx.1, ob_t, h5]
  by_cases d : kdT B n (plT B n q) = 4
  · have pb := pl_B (q := q) tx.2.2.1 (by omega)
    rw [if_pos (by rw [d]; rfl), Lp_1_0 tx.1, ob_t, Lf_1 tx.1, ob_t, h6, La_2 tx.1 (by omega), ob_t, tx.2.2.2.2 _ pb.1, cd_4 d]
    by_cases e : B (plT B n q) = c
    · rw [if_pos ((sg_t _ pb.2 c h2).mpr e), if_pos (by rw [e])]
    · rw [if_neg (fun y => e ((sg_t _ pb.2 c h2).mp y)), if_neg (by omega)]
  · rw [if_neg (neL4 d (by have := kd_4 (B := B) (n := n) (i := plT B n q); omega)), if_neg]
    intro y
    rcases kd_c (B := B) hq with z | z | z | z
    · have := cd_0 z; omega
    · have := cd_2 z
      omega
    · have := cd_3 hq z; omega
    · exact d z
theorem TkC.kind (t : TkC B n q M) : gI M 3 1 5 = some (nI (kdT B n (plT B n q))) := by rw [Lf_1 t.1.1, t.2.2.2.2.1]
theorem TkC.k2 (t : TkC B n q M) : nI (kdT B n (plT B n q)) = (2 : Int32) ↔ 1 ≤ cdT B n q ∧ cdT B n q ≤ 16 := by
  rw [cd_k2 t.2.1]; exact nI_eq (b := 2) (by have := kd_4 (B := B) (n := n) (i := plT B n q); omega) (by omega)
theorem TkC.k3 (t : TkC B n q M) : nI (kdT B n (plT B n q)) = (3 : Int32) ↔ cdT B n q = 17 ∨ 1000 ≤ cdT B n q := by
  rw [cd_k3 t.2.1 t.b]; exact nI_eq (b := 3) (by have := kd_4 (B := B) (n := n) (i := plT B n q); omega) (by omega)
theorem TkC.k0 (t : TkC B n q M) : nI (kdT B n (plT B n q)) = (0 : Int32) ↔ cdT B n q = 0 := by
  rw [cd_k0 t.2.1]; exact nI_eq (b := 0) (by have := kd_4 (B := B) (n := n) (i := plT B n q); omega) (by omega)
theorem TkC.num (t : TkC B n q M) (h : cdT B n q = 17 ∨ 1000 ≤ cdT B n q) : mI M 1 8 = if cdT B n q = 17 then -1 else nI (cdT B n q - 1000) := by
  have k := (cd_k3 t.2.1 t.b).mp h
  rw [t.2.2.2.2.2 k]
  rcases cd_3 t.2.1 k with ⟨a, b⟩ | ⟨a, -, -, -, b⟩
  · rw [b, if_pos a]
  · rw [b, if_neg (by omega)]
theorem cd_le (hq : q ≤ n) (hB : ∀ i, i < n → B i < 256) : cdT B n q ≤ 10999 := by
  rcases kd_c (B := B) hq with z | z | z | z
  · have := cd_0 z; omega
  · have := cd_2 z; omega
  · have := cd_3 hq z; omega
  · have := cd_4 z
    have := (pl_B hB (by omega : kdT B n (plT B n q) ≠ 0)).2
    omega
theorem cd_en (hq : q ≤ n) (h : cdT B n q ≠ 0) : q < enT B n q ∧ enT B n q ≤ n ∧ q < n := by
  have k : kdT B n (plT B n q) ≠ 0 := fun y => h (cd_0 y)
  have := en_lt hq k
  have := pl_le (B := B) hq
  have := en_le (B := B) hq
  omega
end
