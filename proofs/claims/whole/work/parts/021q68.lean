/-! ===== tokens: the reference asks ===== -/
section
variable {N N' N1 N2 : Mem} {B : Nat → Nat} {n q i a e k : Nat} {X X' : Nat → Nat → Prop}
def pkR : List Nat → Nat
  | [] => 0
  | c :: r => 32 * pkR r + (c - 96)
theorem pk_inj : ∀ l l' : List Nat, (∀ x ∈ l, 97 ≤ x ∧ x ≤ 122) → (∀ x ∈ l', 97 ≤ x ∧ x ≤ 122) → pkR l = pkR l' → l = l'
  | [], [], _, _, _ => rfl
  | [], c :: r, _, h, e => by
    have := h c List.mem_cons_self
    have e' : 0 = 32 * pkR r + (c - 96) := e
    omega
  | c :: r, [], h, _, e => by
    have := h c List.mem_cons_self
    have e' : 32 * pkR r + (c - 96) = 0 := e
    omega
  | c :: r, c' :: r', h, h', e => by
    have h1 := h c List.mem_cons_self
    have h2 := h' c' List.mem_cons_self
    have e' : 32 * pkR r + (c - 96) = 32 * pkR r' + (c' - 96) := e
    have hc : c = c' := by omega
    rw [hc, pk_inj r r' (fun x hx => h x (List.mem_cons_of_mem _ hx)) (fun x hx => h' x (List.mem_cons_of_mem _ hx)) (by omega)]
theorem pk_I : ∀ k, pkI B a k = pkR (((List.range k).map fun i => B (a + i)).reverse)
  | 0 => rfl
  | k + 1 => by
    rw [List.range_succ, List.map_append, List.reverse_append]
    show 32 * pkI B a k + (B (a + k) - 96) = 32 * pkR (((List.range k).map fun i => B (a + i)).reverse) + (B (a + k) - 96)
    rw [pk_I k]
def spF (a b c d e f : Int32) : Int64 :=
  let n1 := (a.toInt64 - (96 : Int64)) <<< (((5 : Int32)).toInt64 &&& 63) ||| (b - (96 : Int32)).toInt64
  let n2 := if c = 0 then n1 else n1 <<< (((5 : Int32)).toInt64 &&& 63) ||| (c - (96 : Int32)).toInt64
  let n3 := if d = 0 then n2 else n2 <<< (((5 : Int32)).toInt64 &&& 63) ||| (d - (96 : Int32)).toInt64
  let n4 := if e = 0 then n3 else n3 <<< (((5 : Int32)).toInt64 &&& 63) ||| (e - (96 : Int32)).toInt64
  if f = 0 then n4 else n4 <<< (((5 : Int32)).toInt64 &&& 63) ||| (f - (96 : Int32)).toInt64
theorem F_spelled {a b c d e f : Int32} : F_X9_spelled a b c d e f N = some (spF a b c d e f) := by
  unfold F_X9_spelled F_X9_spelled_j32 F_X9_spelled_j48 F_X9_spelled_j66 nm spF
  by_cases h1 : c = 0 <;> by_cases h2 : d = 0 <;> by_cases h3 : e = 0 <;> by_cases h4 : f = 0 <;> simp only [h1, h2, h3, h4, if_true, if_false]
def letF (x : Int32) : Option Int64 := if x = (0 : Int32) then some (spF 104 101 101 108 0 0) else if x = (1 : Int32) then some (spF 115 105 122 101 0 0) else if x = (2 : Int32) then some (spF 103 105 118 101 0 0) else if x = (3 : Int32) then some (spF 119 111 114 110 0 0) else if x = (4 : Int32) then some (spF 100 97 109 112 0 0) else if x = (5 : Int32) then some (spF 100 97 121 0 0 0) else if x = (6 : Int32) then some (spF 116 105 103 104 116 0) else if x = (7 : Int32) then some (spF 104 111 117 115 101 0) else if x = (8 : Int32) then some (spF 112 101 114 115 111 110) else if x = (9 : Int32) then some (spF 105 110 0 0 0 0) else if x = (10 : Int32) then some (spF 101 97 115 101 115 0) else if x = (11 : Int32) then some (spF 98 117 114 115 116 115) else if x = (12 : Int32) then some (spF 97 110 100 0 0 0) else if x = (13 : Int32) then some (spF 111 114 0 0 0 0) else some (spF 110 111 116 0 0 0)
theorem F_letters {x : Int32} : F_X9_letters x N = letF x := by
  unfold F_X9_letters letF
  simp only [F_spelled, ob_t]
def idc (j : Nat) : Nat := [6, 7, 8, 9, 4, 10, 11, 1, 2, 3, 5, 15, 14, 13, 12].getD j 0
def idm (c : Nat) : Nat := [0, 7, 8, 9, 4, 10, 0, 1, 2, 3, 5, 6, 14, 13, 12, 11].getD c 0
theorem let_t : ∀ j, j < 15 → (letF (nI j)).map tN = some (pkR (SPN (idc j)).reverse) := by decide +kernel
theorem idc_t : ∀ j, j < 15 → 1 ≤ idc j ∧ idc j ≤ 15 ∧ idm (idc j) = j := by decide
theorem idm_t : ∀ c, c < 16 → 1 ≤ c → idm c < 15 ∧ idc (idm c) = c := by decide
def kwI (c : Nat) : Int32 := if 1 ≤ c ∧ c ≤ 15 then nI (idm c) else -1
theorem TkM.sr (t : TkM B n q N) : mI N 67 18 = nI (srT B n (plT B n q)) := t.2.2.2.2.1
theorem sr_1 (hq : q ≤ n) : nI (srT B n (plT B n q)) = (1 : Int32) ↔ 1 ≤ cdT B n q ∧ cdT B n q ≤ 16 := by
  rw [cd_k2 hq]
  rcases kd_c (B := B) hq with c | c | c | c <;> unfold srT
  · rw [if_pos c, c]; decide
  · rw [if_neg (by omega), if_pos c]; exact ⟨fun _ => c, fun _ => rfl⟩
  · rw [if_neg (by omega), if_neg (by omega), if_pos c, c]; decide
  · rw [if_neg (by omega), if_neg (by omega), if_neg (by omega), c]
    split <;> decide
theorem sr_2 (hq : q ≤ n) (hB : ∀ i, i < n → B i < 256) : nI (srT B n (plT B n q)) = (2 : Int32) ↔ cdT B n q = 17 ∨ 1000 ≤ cdT B n q := by
  rw [cd_k3 hq hB]
  rcases kd_c (B := B) hq with c | c | c | c <;> unfold srT
  · rw [if_pos c, c]; decide
  · rw [if_neg (by omega), if_pos c, c]; decide
  · rw [if_neg (by omega), if_neg (by omega), if_pos c]; exact ⟨fun _ => c, fun _ => rfl⟩
  · rw [if_neg (by omega), if_neg (by omega), if_neg (by omega), c]
    split <;> decide
theorem sr_0 (hq : q ≤ n) : nI (srT B n (plT B n q)) = (0 : Int32) ↔ cdT B n q = 0 := by
  rw [cd_k0 hq]
  rcases kd_c (B := B) hq with c | c | c | c <;> unfold srT
  · rw [if_pos c]; exact ⟨fun _ => c, fun _ => rfl⟩
  · rw [if_neg (by omega), if_pos c, c]; decide
  · rw [if_neg (by omega), if_neg (by omega), if_pos c, c]; decide
  · rw [if_neg (by omega), if_neg (by omega), if_neg (by omega), c]
    split <;> decide
theorem TkM.b (t : TkM B n q N) : ∀ i, i < n → B i < 256 := t.1.2.2.1
theorem TkM.val (t : TkM B n q N) (h : 1000 ≤ cdT B n q) : mI N 67 21 = nI (cdT B n q - 1000) := by
  have k := (cd_k3 t.2.1 t.b).mp (Or.inr h)
  rcases cd_3 t.2.1 k with ⟨a, -⟩ | ⟨-, -, a, b, -⟩
  · omega
  · rw [t.2.2.2.2.2.2.1 k a, b, Nat.add_sub_cancel_left]
theorem TkM.lon (t : TkM B n q N) (h : cdT B n q = 17 ∨ 1000 ≤ cdT B n q) : mI N 67 20 ≤ 4 ↔ cdT B n q ≠ 17 := by
  have k := (cd_k3 t.2.1 t.b).mp h
  have en := en_le (B := B) t.2.1
  have hn := t.1.2.1
  rw [t.2.2.2.2.2.1]
  unfold cdT
  rw [if_neg (by omega), if_neg (by omega), if_pos k]
  by_cases c : 4 < enT B n q - plT B n q
  · rw [if_pos c]; exact ⟨fun y => absurd y (nI_ge (a := 4) c (by omega)), fun y => absurd rfl y⟩
  · rw [if_neg c]; exact ⟨fun _ => by omega, fun _ => nI_le (b := 4) (by omega) (by omega)⟩
theorem TkM.isS {c : Nat} (t : TkM B n q N) (hc : sgS c) : F_X9_isSign 67 (nI c) N = some (if cdT B n q = 20 + c then 1 else 0) := by
  have hq := t.2.1
  unfold F_X9_isSign
  rw [Lf_67 t.1.1, ob_t, t.sr]
  by_cases d : kdT B n (plT B n q) = 4
  · have pb := pl_B (q := q) t.b (by omega)
    have sr4 : srT B n (plT B n q) = if sgS (B (plT B n q)) then 3 else 4 := by
      unfold srT
      rw [if_neg (by omega), if_neg (by omega), if_neg (by omega)]
    rw [sr4, cd_4 d]
    by_cases e : B (plT B n q) = c
    · rw [if_pos (show sgS (B (plT B n q)) by rw [e]; exact hc), if_pos (show nI 3 = (3 : Int32) from rfl), Lf_67 t.1.1, ob_t, t.2.2.2.2.2.2.2.1 d, if_pos (by rw [e]), if_pos (by rw [e])]
    · rw [if_neg (show ¬ 20 + B (plT B n q) = 20 + c by omega)]
      by_cases s : sgS (B (plT B n q))
      · rw [if_pos s, if_pos (show nI 3 = (3 : Int32) from rfl), Lf_67 t.1.1, ob_t, t.2.2.2.2.2.2.2.1 d, if_neg (fun y => e ((nI_eq (by omega) (by unfold sgS at hc; omega)).mp y))]
      · rw [if_neg s, if_neg (by decide)]
  · have ne : cdT B n q ≠ 20 + c := fun y => by
      rcases kd_c (B := B) hq with z | z | z | z
      · have := cd_0 z; omega
      · have := cd_2 z; unfold sgS at hc; omega
      · have := cd_3 hq z; unfold sgS at hc; omega
      · exact d z
    rw [if_neg ne, if_neg]
    unfold srT
    rcases kd_c (B := B) hq with z | z | z | z
    · rw [if_pos z]; decide
    · rw [if_neg (by omega), if_pos z]; decide
    · rw [if_neg (by omega), if_neg (by omega), if_pos z]; decide
    · exact absurd z d
theorem tN_inj {a b : Int64} (h : tN a = tN b) : a = b := Int64.toBitVec_inj.mp (BitVec.eq_of_toNat_eq h)
theorem wn_R (k : Nat) (hk : k = enT B n q - plT B n q) : pkI B (plT B n q) k = pkR (WNT B n q).reverse := by rw [pk_I, hk]; rfl
theorem wn_lt (hq : q ≤ n) (hB : ∀ i, i < n → B i < 256) (c : kdT B n (plT B n q) = 2) : ∀ x ∈ WNT B n q, 97 ≤ x ∧ x ≤ 122 := by
  intro x hx
  unfold WNT at hx
  rw [List.mem_map] at hx
  obtain ⟨j, hj, rfl⟩ := hx
  rw [List.mem_range] at hj
  have en := en_le (B := B) hq
  have z := en_in (B := B) (n := n) (q := q) (i := plT B n q + j) hq (by omega) (by omega)
  rw [c] at z
  unfold kdT at z
  rw [if_pos (by omega)] at z
  exact (lt_t _ (hB _ (by omega)) z).2
theorem TkM.kw (t : TkM B n q N) : F_X9_knownWord 67 N = some (kwI (cdT B n q)) := by
  have hq := t.2.1
  have hn := t.1.2.1
  have en := en_le (B := B) hq
  unfold F_X9_knownWord
  rw [Lf_67 t.1.1, ob_t, t.sr]
  by_cases c : kdT B n (plT B n q) = 2
  · have c2 := cd_2 c
    rw [if_pos ((sr_1 hq).mpr c2), Lf_67 t.1.1, ob_t, t.2.2.2.2.2.1]
    by_cases d : enT B n q - plT B n q ≤ 6
    · rw [if_pos (show nI (enT B n q - plT B n q) ≤ (6 : Int32) from nI_le (b := 6) d (by omega))]
      have wd := t.2.2.2.2.2.2.2.2 c d
      rw [wn_R _ rfl] at wd
      have gl : gL N 9 67 23 = some (mL N 67 23) := gL_t (t.1.1.t rfl)
      obtain ⟨r, e1, z⟩ := loop_ex (step := fun s => F_X9_knownWord_s21 67 N s) (fun j s => s = nI j ∧ ∀ i, i < j → cdT B n q ≠ idc i) (fun r => (r = .inl () ∧ ∀ i, i < 15 → cdT B n q ≠ idc i) ∨ ∃ j, j < 15 ∧ r = .inr (nI j) ∧ cdT B n q = idc j) 15 (by
        rintro j s hj ⟨z1, z2⟩
        subst z1
        unfold F_X9_knownWord_s21
        by_cases e : j = 15
        · subst e
          rw [if_pos (by decide)]
          exact Or.inl ⟨_, rfl, Or.inl ⟨rfl, z2⟩⟩
        · rw [if_neg (show ¬ (15 : Int32) ≤ nI j from nI_ge (b := 15) (by omega) (by omega)), F_letters]
          have lt := let_t j (by omega)
          have ic := idc_t j (by omega)
          cases l : letF (nI j) with
          | none => rw [l] at lt; cases lt
          | some v =>
            rw [l] at lt
            have lt : tN v = pkR (SPN (idc j)).reverse := Option.some.inj lt
            rw [ob_t, gl, ob_t]
            have iff : v = mL N 67 23 ↔ cdT B n q = idc j := by
              rw [cd_w hq ic.1 ic.2.1]
              constructor
              · intro y
                refine ⟨c, ?_⟩
                have := pk_inj _ _ (fun x hx => wn_lt hq t.b c x (List.mem_reverse.mp hx)) (fun x hx => (spn_l (idc j) (by omega) ic.1).2.2.2 x (List.mem_reverse.mp hx)) (by rw [← wd, ← lt, y])
                exact List.reverse_inj.mp this
              · rintro ⟨-, w⟩
                exact tN_inj (by rw [lt, wd, w])
            by_cases y : v = mL N 67 23
            · rw [if_pos (lg_eq.mpr y)]
              exact Or.inl ⟨_, rfl, Or.inr ⟨j, by omega, rfl, iff.mp y⟩⟩
            · rw [if_neg (fun x => y (lg_eq.mp x)), nI_1]
              refine Or.inr ⟨by omega, _, rfl, rfl, fun i hi => ?_⟩
              by_cases e2 : i = j
              · rw [e2]; exact fun x => y (iff.mpr x)
              · exact z2 i (by omega)) (s := (0 : Int32)) ⟨rfl, fun i hi => by omega⟩
      rw [e1, ob_t]
      unfold kwI
      rcases z with ⟨x1, x2⟩ | ⟨j, hj, x1, x2⟩
      · rw [x1, if_neg]
        · rfl
        · rintro ⟨y1, y2⟩
          have := idm_t (cdT B n q) (by omega) y1
          exact x2 _ this.1 this.2.symm
      · have ic := idc_t j hj
        rw [x1, if_pos (by omega), x2, ic.2.2]; rfl
    · rw [if_neg (show ¬ nI (enT B n q - plT B n q) ≤ (6 : Int32) from nI_ge (a := 6) (by omega) (by omega))]
      unfold kwI
      rw [if_neg]
      rintro ⟨y1, y2⟩
      have := ((cd_w (k := cdT B n q) hq y1 y2).mp rfl).2
      have l := (spn_l (cdT B n q) (by omega) y1).2.2.1
      rw [← this, wn_l] at l; omega
  · rw [if_neg (fun y => c ((cd_k2 hq).mp ((sr_1 hq).mp y)))]
    unfold kwI
    rw [if_neg (fun y => c ((cd_k2 hq).mp ⟨y.1, by omega⟩))]
theorem TkM.kwe (t : TkM B n q N) {k : Nat} (hk : k < 15) : kwI (cdT B n q) = nI k ↔ cdT B n q = idc k := by
  unfold kwI
  have ic := idc_t k hk
  by_cases c : 1 ≤ cdT B n q ∧ cdT B n q ≤ 15
  · have im := idm_t (cdT B n q) (by omega) c.1
    rw [if_pos c, nI_eq (by omega) (by omega)]
    exact ⟨fun y => by rw [← y, im.2], fun y => by rw [y, ic.2.2]⟩
  · rw [if_neg c]
    exact ⟨fun y => absurd y.symm (nI_nm1 (by omega)), fun y => absurd (by rw [y]; exact ⟨ic.1, ic.2.1⟩) c⟩
end
