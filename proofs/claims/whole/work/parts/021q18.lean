/-! ===== the match: sets by numbers ===== -/
section
variable {M M' : Mem} {p u h : Nat} {g : Pg} {s : Sg} {D : Int}
def mns (n h : Nat) : Nat := if n.testBit h = true then n - 2 ^ h else n
theorem ms_1 : ∀ n, n < 256 → ∀ h, h < 8 → nI n &&& (one h ^^^ -1) = nI (mns n h) := by decide +kernel
theorem ms_2 : ∀ n, n < 256 → ∀ h, h < 8 → bitI (nI n) h = n.testBit h := by decide +kernel
theorem ms_3 : ∀ n, n < 256 → ∀ h, h < 8 → n.testBit h = true → 2 ^ h ≤ n := by decide +kernel
theorem ms_4 : ∀ H, H ≤ 8 → ∀ n, n < 2 ^ H → ∀ h, h < H → (2 ^ H - 1 - n).testBit h = !n.testBit h := by decide +kernel
theorem ms_5 : ∀ H, H ≤ 8 → ∀ n, n < 2 ^ H → ∀ h, h < H → n.testBit h = false → nI n ||| one h = nI (n + 2 ^ h) ∧ n + 2 ^ h < 2 ^ H := by decide +kernel
theorem ms_6 : ∀ n, n < 256 → ∀ h, h < 8 → ∀ k, k < 8 → mns (mns n h) k = mns (mns n k) h ∧ (k ≠ h → (mns n h).testBit k = n.testBit k) := by decide +kernel
theorem ms_7 : ∀ H, H ≤ 8 → ((1 : Int32) <<< (nI H &&& 31)) = nI (2 ^ H) ∧ 2 ^ H ≤ 256 ∧ ((1 : Int32) <<< (nI H &&& 31)) - 1 = nI (2 ^ H - 1) := by decide +kernel
theorem ms_8 : ∀ H, H ≤ 8 → ∀ h, h < H → one h = nI (0 + 2 ^ h) ∧ 0 + 2 ^ h < 2 ^ H ∧ mns (2 ^ H - 1) h = 2 ^ H - 1 - 2 ^ h ∧ (2 ^ H - 1).testBit h = true := by decide +kernel
theorem mns_le (n h : Nat) : mns n h ≤ n := by
  unfold mns
  split
  · exact Nat.sub_le _ _
  · exact Nat.le_refl _
theorem mns_lt {n : Nat} (hn : n < 256) (hh : h < 8) (b : n.testBit h = true) : mns n h < n := by
  have := ms_3 n hn h hh b
  have : 0 < 2 ^ h := Nat.pow_pos (by omega)
  unfold mns; rw [if_pos b]; omega
def tgN (s : Sg) (q h : Nat) : Nat := (tightS s q h).toNatClampNeg
theorem tg_e (hd : GdS D g s) (hq : u < gN g) (hh : h < gH g) : tightS s u h = nI (tgN s u h) ∧ tgN s u h ≤ 98 := by
  have b := tightS_bnd hd hq hh
  unfold bnd at b
  obtain ⟨j, hj, e⟩ := nI_of (x := tightS s u h) (by rw [ti_lt, ti_0]; omega)
  unfold tgN
  rw [e, nI_clamp hj]
  rw [e, nI_toInt hj] at b
  exact ⟨rfl, by omega⟩
def okM (g : Pg) (s : Sg) (q n h : Nat) : Prop := n.testBit h = true ∧ goI g s q h (dampS g s) ≠ 0
/-- one turn of the choice: f the costs behind, of n without h -/
noncomputable def stM (g : Pg) (s : Sg) (f : Nat → Nat) (q n j : Nat) (a : Nat × Nat) : Nat × Nat := by
  classical exact if okM g s q n (gH g - 1 - j) then (if a.1 < f (mns n (gH g - 1 - j)) + tgN s q (gH g - 1 - j) then a else (f (mns n (gH g - 1 - j)) + tgN s q (gH g - 1 - j), gH g - 1 - j)) else a
noncomputable def cpN (g : Pg) (s : Sg) (f : Nat → Nat) (q n : Nat) : Nat × Nat := itN (stM g s f q n) (f n + 1000, 15) (gH g)
noncomputable def csN (g : Pg) (s : Sg) : Nat → Nat → Nat
  | 0, _ => 0
  | k + 1, n => (cpN g s (csN g s k) (gN g - (k + 1)) n).1
noncomputable def pkN (g : Pg) (s : Sg) (k n : Nat) : Nat := (cpN g s (csN g s k) (gN g - (k + 1)) n).2
theorem stM_y {f : Nat → Nat} {q n j : Nat} {a : Nat × Nat} (z : okM g s q n (gH g - 1 - j)) : stM g s f q n j a = if a.1 < f (mns n (gH g - 1 - j)) + tgN s q (gH g - 1 - j) then a else (f (mns n (gH g - 1 - j)) + tgN s q (gH g - 1 - j), gH g - 1 - j) := by unfold stM; rw [if_pos z]
theorem stM_n {f : Nat → Nat} {q n j : Nat} {a : Nat × Nat} (z : ¬ okM g s q n (gH g - 1 - j)) : stM g s f q n j a = a := by unfold stM; rw [if_neg z]
/-- the least of lodging and of the houses from gH - j on, and the first house of it -/
def lsM (g : Pg) (s : Sg) (f : Nat → Nat) (q n j : Nat) (a : Nat × Nat) : Prop :=
  a.1 ≤ f n + 1000 ∧ (∀ h, gH g - j ≤ h → h < gH g → okM g s q n h → a.1 ≤ f (mns n h) + tgN s q h) ∧
  ((a.2 = 15 ∧ a.1 = f n + 1000 ∧ ∀ h, gH g - j ≤ h → h < gH g → okM g s q n h → a.1 < f (mns n h) + tgN s q h) ∨ (gH g - j ≤ a.2 ∧ a.2 < gH g ∧ okM g s q n a.2 ∧ a.1 = f (mns n a.2) + tgN s q a.2 ∧ ∀ h, gH g - j ≤ h → h < a.2 → okM g s q n h → a.1 < f (mns n h) + tgN s q h))
theorem cp_ls {f : Nat → Nat} {q n : Nat} : ∀ j, j ≤ gH g → lsM g s f q n j (itN (stM g s f q n) (f n + 1000, 15) j) := by
  intro j
  induction j with
  | zero => intro _; exact ⟨Nat.le_refl _, fun h a b => by omega, Or.inl ⟨rfl, rfl, fun h a b => by omega⟩⟩
  | succ j ih =>
    intro hj
    obtain ⟨h1, h2, h3⟩ := ih (by omega)
    show lsM g s f q n (j + 1) (stM g s f q n j (itN (stM g s f q n) (f n + 1000, 15) j))
    generalize itN (stM g s f q n) (f n + 1000, 15) j = a at *
    have eh : gH g - (j + 1) = gH g - 1 - j := by omega
    by_cases z : okM g s q n (gH g - 1 - j)
    · rw [stM_y z]
      by_cases c : a.1 < f (mns n (gH g - 1 - j)) + tgN s q (gH g - 1 - j)
      · rw [if_pos c]
        refine ⟨h1, fun h y1 y2 y3 => ?_, ?_⟩
        · by_cases e : h = gH g - 1 - j
          · rw [e]; omega
          · exact h2 h (by omega) y2 y3
        · rcases h3 with ⟨z1, z2, z3⟩ | ⟨z1, z2, z3, z4, z5⟩
          · refine Or.inl ⟨z1, z2, fun h y1 y2 y3 => ?_⟩
            by_cases e : h = gH g - 1 - j
            · rw [e]; omega
            · exact z3 h (by omega) y2 y3
          · refine Or.inr ⟨by omega, z2, z3, z4, fun h y1 y2 y3 => ?_⟩
            by_cases e : h = gH g - 1 - j
            · rw [e]; omega
            · exact z5 h (by omega) y2 y3
      · rw [if_neg c]
        refine ⟨by dsimp only; omega, fun h y1 y2 y3 => ?_, Or.inr ⟨by dsimp only; omega, by dsimp only; omega, z, rfl, fun h y1 y2 y3 => by dsimp only at y2; omega⟩⟩
        by_cases e : h = gH g - 1 - j
        · rw [e]; exact Nat.le_refl _
        · have := h2 h (by omega) y2 y3; dsimp only; omega
    · rw [stM_n z]
      refine ⟨h1, fun h y1 y2 y3 => ?_, ?_⟩
      · by_cases e : h = gH g - 1 - j
        · rw [e] at y3; exact absurd y3 z
        · exact h2 h (by omega) y2 y3
      · rcases h3 with ⟨z1, z2, z3⟩ | ⟨z1, z2, z3, z4, z5⟩
        · refine Or.inl ⟨z1, z2, fun h y1 y2 y3 => ?_⟩
          by_cases e : h = gH g - 1 - j
          · rw [e] at y3; exact absurd y3 z
          · exact z3 h (by omega) y2 y3
        · refine Or.inr ⟨by omega, z2, z3, z4, fun h y1 y2 y3 => ?_⟩
          by_cases e : h = gH g - 1 - j
          · rw [e] at y3; exact absurd y3 z
          · exact z5 h (by omega) y2 y3
theorem cp_all {f : Nat → Nat} {q n : Nat} : lsM g s f q n (gH g) (cpN g s f q n) := cp_ls _ (Nat.le_refl _)
theorem cs_bnd (hd : GdS D g s) : ∀ k n, k ≤ gN g → csN g s k n ≤ 1000 * k ∧ csN g s k n % 1000 ≤ 98 * k ∨ 8 < k := by
  intro k
  induction k with
  | zero => intro n _; left; exact ⟨Nat.le_refl _, by show 0 % 1000 ≤ _; omega⟩
  | succ k ih =>
    intro n hk
    by_cases h8 : 8 < k + 1
    · exact Or.inr h8
    left
    show (cpN g s (csN g s k) (gN g - (k + 1)) n).1 ≤ _ ∧ (cpN g s (csN g s k) (gN g - (k + 1)) n).1 % 1000 ≤ _
    obtain ⟨h1, -, h3⟩ := cp_all (g := g) (s := s) (f := csN g s k) (q := gN g - (k + 1)) (n := n)
    generalize cpN g s (csN g s k) (gN g - (k + 1)) n = a at *
    rcases h3 with ⟨-, z2, -⟩ | ⟨-, z2, -, z4, -⟩
    · have := (ih n (by omega)).resolve_right (by omega); omega
    · have := (ih (mns n a.2) (by omega)).resolve_right (by omega)
      have := (tg_e hd (show gN g - (k + 1) < gN g by omega) z2).2
      omega
-- the reference's weights
def f10 (v : Nat) : Nat := 10000 * (v / 1000) + v % 1000
theorem f10_le {v w : Nat} : f10 v ≤ f10 w ↔ v ≤ w := by unfold f10; omega
theorem f10_eq {v w : Nat} : f10 v = f10 w ↔ v = w := by unfold f10; omega
theorem f10_l {v : Nat} : f10 (v + 1000) = 10000 + f10 v := by unfold f10; omega
theorem f10_t {v t : Nat} (h : v % 1000 + t < 1000) : f10 (v + t) = t + f10 v := by unfold f10; omega
theorem f10_b {v : Nat} (h : v ≤ 9000) : f10 v < 100000 ∧ f10 v / 10000 = v / 1000 ∧ f10 v % 10000 = v % 1000 := by unfold f10; omega
/-- a house that nobody enters counts for nothing -/
theorem cs_none (hg : GdP g) (hh : h < gH g) (hz : ∀ q, q < gN g → goI g s q h (dampS g s) = 0) : ∀ k n, k ≤ gN g → n < 256 → csN g s k (mns n h) = csN g s k n := by
  have g1 := hg.1
  intro k
  induction k with
  | zero => intro n _ _; rfl
  | succ k ih =>
    intro n hk hn
    show (cpN g s (csN g s k) (gN g - (k + 1)) (mns n h)).1 = (cpN g s (csN g s k) (gN g - (k + 1)) n).1
    have ok : ∀ x, x < gH g → (okM g s (gN g - (k + 1)) (mns n h) x ↔ okM g s (gN g - (k + 1)) n x) := fun x hx => by
      by_cases e : x = h
      · subst e
        exact ⟨fun y => absurd (hz _ (by omega)) y.2, fun y => absurd (hz _ (by omega)) y.2⟩
      · unfold okM; rw [(ms_6 n hn h (by omega) x (by omega)).2 e]
    have cv : ∀ x, x < gH g → csN g s k (mns (mns n h) x) = csN g s k (mns n x) := fun x hx => by
      rw [(ms_6 n hn h (by omega) x (by omega)).1]
      exact ih (mns n x) (by omega) (by have := mns_le n x; omega)
    have : ∀ j, j ≤ gH g → itN (stM g s (csN g s k) (gN g - (k + 1)) (mns n h)) (csN g s k (mns n h) + 1000, 15) j = itN (stM g s (csN g s k) (gN g - (k + 1)) n) (csN g s k n + 1000, 15) j := by
      intro j
      induction j with
      | zero => intro _; show (csN g s k (mns n h) + 1000, 15) = _; rw [ih n (by omega) hn]; rfl
      | succ j ij =>
        intro hj
        show stM g s (csN g s k) (gN g - (k + 1)) (mns n h) j _ = stM g s (csN g s k) (gN g - (k + 1)) n j _
        rw [ij (by omega)]
        by_cases z : okM g s (gN g - (k + 1)) n (gH g - 1 - j)
        · rw [stM_y z, stM_y ((ok _ (by omega)).mpr z), cv _ (by omega)]
        · rw [stM_n z, stM_n fun y => z ((ok _ (by omega)).mp y)]
    exact congrArg Prod.fst (this (gH g) (Nat.le_refl _))
end
