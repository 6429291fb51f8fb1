/-! ===== a text is read: what is read ===== -/
section
variable {M M' M1 M2 N N' : Mem} {B : Nat → Nat} {n q p : Nat} {X Y : Nat → Nat → Prop}
/-- houses, people, numbers of damp; size, give, place; heel, grows, at home; damp; eases, bursts -/
abbrev Gt : Type := Nat × Nat × Nat × (Nat → Int32) × (Nat → Int32) × (Nat → Int32) × (Nat → Int32) × (Nat → Int32) × (Nat → Int32) × (Nat → Int32) × Option (List Int32) × Option (List Int32)
def tH (G : Gt) : Nat := G.1
def tP (G : Gt) : Nat := G.2.1
def tD (G : Gt) : Nat := G.2.2.1
def tSiz (G : Gt) : Nat → Int32 := G.2.2.2.1
def tGiv (G : Gt) : Nat → Int32 := G.2.2.2.2.1
def tStr (G : Gt) : Nat → Int32 := G.2.2.2.2.2.1
def tHee (G : Gt) : Nat → Int32 := G.2.2.2.2.2.2.1
def tGro (G : Gt) : Nat → Int32 := G.2.2.2.2.2.2.2.1
def tHom (G : Gt) : Nat → Int32 := G.2.2.2.2.2.2.2.2.1
def tDam (G : Gt) : Nat → Int32 := G.2.2.2.2.2.2.2.2.2.1
def tEas (G : Gt) : Option (List Int32) := G.2.2.2.2.2.2.2.2.2.2.1
def tBur (G : Gt) : Option (List Int32) := G.2.2.2.2.2.2.2.2.2.2.2
/-- where the token begins, or the fault and its place -/
abbrev RsT : Type := Nat ⊕ (Nat × Nat)
noncomputable def nvT (B : Nat → Nat) (n q : Nat) : Int32 := nI (cdT B n q - 1000)
def okN (lo hi c : Nat) : Prop := 1000 + lo ≤ c ∧ c ≤ 1000 + hi
noncomputable def numS (B : Nat → Nat) (n lo hi : Nat) : RsT → RsT
  | .inl q => by classical exact if okN lo hi (cdT B n q) then .inl (enT B n q) else if cdT B n q = 17 ∨ 1000 ≤ cdT B n q then .inr (2, plT B n q) else .inr (1, plT B n q)
  | .inr f => .inr f
theorem num_y {lo hi : Nat} (h : okN lo hi (cdT B n q)) : numS B n lo hi (.inl q) = .inl (enT B n q) := if_pos h
theorem num_n {lo hi : Nat} (h : ¬ okN lo hi (cdT B n q)) (h' : cdT B n q = 17 ∨ 1000 ≤ cdT B n q) : numS B n lo hi (.inl q) = .inr (2, plT B n q) := (if_neg h).trans (if_pos h')
theorem num_w {lo hi : Nat} (h : ¬ (cdT B n q = 17 ∨ 1000 ≤ cdT B n q)) : numS B n lo hi (.inl q) = .inr (1, plT B n q) := (if_neg (fun y => h (Or.inr (by unfold okN at y; omega)))).trans (if_neg h)
noncomputable def homS (B : Nat → Nat) (n : Nat) (G : Gt) (q : Nat) : RsT := by classical exact if ¬ (cdT B n q = 17 ∨ 1000 ≤ cdT B n q) then .inr (1, plT B n q) else if cdT B n q = 17 then .inr (2, plT B n q) else if tH G ≤ cdT B n q - 1000 then .inr (3, plT B n q) else if ∃ i, i < tP G ∧ tHom G i = nvT B n q then .inr (4, plT B n q) else .inl (enT B n q)
noncomputable def dmL (B : Nat → Nat) (n : Nat) : Nat → (Nat → Int32) → Nat → RsT → ((Nat → Int32) × Nat × Nat) ⊕ (Nat × Nat)
  | _, _, _, .inr f => .inr f
  | 0, dam, D, .inl q => by classical exact if cdT B n q = 17 ∨ 1000 ≤ cdT B n q then .inr (2, plT B n q) else .inl (dam, D, q)
  | m + 1, dam, D, .inl q => by classical exact if cdT B n q = 17 ∨ 1000 ≤ cdT B n q then dmL B n m (upg dam D (nvT B n q)) (D + 1) (numS B n 0 9 (.inl q)) else .inl (dam, D, q)
abbrev RlT : Type := (Gt × Nat) ⊕ (Nat × Nat)
def withR (s : RsT) (f : Nat → Gt) : RlT := match s with
  | .inl q => .inl (f q, q)
  | .inr x => .inr x
noncomputable def hsL (B : Nat → Nat) (n : Nat) (G : Gt) (q : Nat) : RlT :=
  if tH G = 8 then .inr (2, plT B n q) else withR (numS B n 0 30 (numS B n 0 9 (numS B n 1 60 (.inl (enT B n q))))) fun _ =>
    (tH G + 1, tP G, tD G, upg (tSiz G) (tH G) (nvT B n (enT B n q)), upg (tGiv G) (tH G) (nvT B n (enT B n (enT B n q))), upg (tStr G) (tH G) (nvT B n (enT B n (enT B n (enT B n q)))), tHee G, tGro G, tHom G, tDam G, tEas G, tBur G)
noncomputable def psL (B : Nat → Nat) (n : Nat) (G : Gt) (q : Nat) : RlT :=
  if tP G = 8 then .inr (2, plT B n q) else match numS B n 0 9 (numS B n 1 60 (.inl (enT B n q))) with
    | .inr f => .inr f
    | .inl q3 => if cdT B n q3 = 3 then withR (homS B n G (enT B n q3)) (fun _ => (tH G, tP G + 1, tD G, tSiz G, tGiv G, tStr G, upg (tHee G) (tP G) (nvT B n (enT B n q)), upg (tGro G) (tP G) (nvT B n (enT B n (enT B n q))), upg (tHom G) (tP G) (nvT B n (enT B n q3)), tDam G, tEas G, tBur G))
      else .inl ((tH G, tP G + 1, tD G, tSiz G, tGiv G, tStr G, upg (tHee G) (tP G) (nvT B n (enT B n q)), upg (tGro G) (tP G) (nvT B n (enT B n (enT B n q))), upg (tHom G) (tP G) (-1), tDam G, tEas G, tBur G), q3)
noncomputable def dpL (B : Nat → Nat) (n : Nat) (G : Gt) (q : Nat) : RlT :=
  if 0 < tD G then .inr (5, plT B n q) else match dmL B n 7 (upg (tDam G) 0 (nvT B n (enT B n q))) 1 (numS B n 0 9 (.inl (enT B n q))) with
    | .inr f => .inr f
    | .inl (dam, D, q') => .inl ((tH G, tP G, D, tSiz G, tGiv G, tStr G, tHee G, tGro G, tHom G, dam, tEas G, tBur G), q')
noncomputable def ruL (B : Nat → Nat) (n t : Nat) (G : Gt) (q : Nat) : RlT :=
  if (if t = 0 then tEas G else tBur G) ≠ none then .inr (5, plT B n q)
  else if (pjP B n t 37 0 0 ([], enT B n q, 0, 0)).2.2.1 = 0 then .inl ((tH G, tP G, tD G, tSiz G, tGiv G, tStr G, tHee G, tGro G, tHom G, tDam G, (if t = 0 then some (pjP B n t 37 0 0 ([], enT B n q, 0, 0)).1 else tEas G), (if t = 0 then tBur G else some (pjP B n t 37 0 0 ([], enT B n q, 0, 0)).1)), (pjP B n t 37 0 0 ([], enT B n q, 0, 0)).2.1)
  else .inr (pjP B n t 37 0 0 ([], enT B n q, 0, 0)).2.2
noncomputable def lnL (B : Nat → Nat) (n : Nat) (G : Gt) (q : Nat) : RlT :=
  if cdT B n q = 1 then hsL B n G q else if cdT B n q = 2 then psL B n G q else if cdT B n q = 4 then dpL B n G q else if cdT B n q = 5 then ruL B n 0 G q else if cdT B n q = 15 then ruL B n 1 G q else .inr (1, plT B n q)
/-- a line, and its end -/
noncomputable def lnE (B : Nat → Nat) (n : Nat) (G : Gt) (q : Nat) : RlT := match lnL B n G q with
  | .inr f => .inr f
  | .inl (G', q') => if cdT B n q' = 79 then .inl (G', enT B n q') else .inr (1, plT B n q')
noncomputable def rdL (B : Nat → Nat) (n : Nat) : Nat → Gt → Nat → RlT
  | 0, G, q => .inl (G, q)
  | m + 1, G, q => if cdT B n q = 0 then .inl (G, q) else match lnE B n G q with
    | .inr f => .inr f
    | .inl (G', q') => rdL B n m G' q'
-- the class: numbers
def CFt (B : Nat → Nat) (n : Nat) (M : Mem) (k a : Nat) : Prop := Lay M ∧ mI M 1 3 = nI k ∧ mI M 1 4 = nI a ∧ (1 ≤ k ∧ k ≤ 5) ∧ ∃ q, TkC B n q M
theorem CFt.fr {k a : Nat} (h : CFt B n M k a) (w : Fr X M M') (h1 : ∀ j, ¬ X 1 j) (h2 : ∀ j, ¬ X 2 j) : CFt B n M' k a := ⟨h.1.fr w, (w.at (h1 3)).trans h.2.1, (w.at (h1 4)).trans h.2.2.1, h.2.2.2.1, h.2.2.2.2.elim fun q t => ⟨q, t.fr w (fun j _ => h1 j) h2⟩⟩
theorem CFt.st {k a c j : Nat} {v : Int32} (h : CFt B n M k a) (h1 : c ≠ 1) (h2 : c ≠ 2) : CFt B n (stI M c j v) k a := h.fr (X := fun k' _ => k' = c) (Fr.rfl'.st rfl) (fun j y => h1 y.symm) (fun j y => h2 y.symm)
def StC (B : Nat → Nat) (n : Nat) (M : Mem) : RsT → Prop
  | .inl q => TkC B n q M ∧ mI M 1 3 = 0
  | .inr f => CFt B n M f.1 f.2
def XN (k j : Nat) : Prop := k = 1 ∧ 3 ≤ j ∧ j ≤ 8
theorem XA_N {k j : Nat} (h : XA k j) : XN k j := by unfold XA at h; unfold XN; omega
theorem StC.lay {s : RsT} (h : StC B n M s) : Lay M := by
  cases s with
  | inl q => exact h.1.1.1
  | inr f => exact h.1
theorem StC.fr {s : RsT} (h : StC B n M s) (w : Fr X M M') (h1 : ∀ j, ¬ X 1 j) (h2 : ∀ j, ¬ X 2 j) : StC B n M' s := by
  cases s with
  | inl q => exact ⟨h.1.fr w (fun j _ => h1 j) h2, (w.at (h1 3)).trans h.2⟩
  | inr f => exact CFt.fr h w h1 h2
theorem StC.st {s : RsT} {k j : Nat} {v : Int32} (h : StC B n M s) (h1 : k ≠ 1) (h2 : k ≠ 2) : StC B n (stI M k j v) s := h.fr (X := fun k' _ => k' = k) (Fr.rfl'.st rfl) (fun j y => h1 y.symm) (fun j y => h2 y.symm)
theorem C_fl {k : Nat} (t : TkC B n q M) (h : mI M 1 3 = 0) (h1 : 1 ≤ k) (h5 : k ≤ 5) : ∃ M', F_X3_fail 1 (nI k) M = some M' ∧ CFt B n M' k (plT B n q) ∧ Fr XN M M' ∧ M' = stI (stI M 1 3 (nI k)) 1 4 (nI (plT B n q)) := by
  have L := t.1.1
  refine ⟨stI (stI M 1 3 (nI k)) 1 4 (nI (plT B n q)), ?_, ⟨L.st.st, by rw [mI_sn (by omega), mI_se], mI_se, ⟨h1, h5⟩, q, t.fr (X := fun k j => k = 1 ∧ (j = 3 ∨ j = 4)) ((Fr.rfl'.st ⟨rfl, Or.inl rfl⟩).st ⟨rfl, Or.inr rfl⟩) (fun j hj => by omega) (fun i => by omega)⟩, (Fr.rfl'.st (by unfold XN; omega)).st (by unfold XN; omega), rfl⟩
  unfold F_X3_fail
  rw [Lf_1 L, ob_t, h, if_pos rfl, Ls_1 L, ob_t, Lf_1 L.st, ob_t, mI_sn (by omega), t.2.2.1, Ls_1 L.st, ob_t]
theorem C_fl' {k a : Nat} {x : Int32} (h : CFt B n M k a) : F_X3_fail 1 x M = some M := by
  unfold F_X3_fail
  rw [Lf_1 h.1, ob_t, h.2.1, if_neg (neL0 (by have := h.2.2.2.1; omega) (by have := h.2.2.2.1; omega))]
theorem C_ad (t : TkC B n q M) (h : mI M 1 3 = 0) : ∃ M', F_X3_advance 1 M = some M' ∧ StC B n M' (.inl (enT B n q)) ∧ Fr XN M M' := by
  obtain ⟨M', e, k, w⟩ := t.adv
  exact ⟨M', e, ⟨k, (w.at (by unfold XA; omega)).trans h⟩, w.mono fun _ _ => XA_N⟩
theorem C_number {lo hi : Nat} (hl9 : lo ≤ 9999) (hi9 : hi ≤ 9999) {s : RsT} (c : StC B n M s) : ∃ x M', F_X3_takeNumber 1 (nI lo) (nI hi) M = some (x, M') ∧ StC B n M' (numS B n lo hi s) ∧ Fr XN M M' ∧ (∀ q q', s = .inl q → numS B n lo hi s = .inl q' → x = nvT B n q) := by
  have L := c.lay
  cases s with
  | inr f =>
    have hk := c.2.2.2.1
    have nz : ¬ mI M 1 3 = 0 := by rw [c.2.1]; exact neL0 (by omega) (by omega)
    have j36 : ∀ x, F_X3_takeNumber_j36 1 x M = some (x, M) := fun x => by
      unfold F_X3_takeNumber_j36
      rw [Lf_1 L, ob_t, if_neg nz]
    refine ⟨mI M 1 8, M, ?_, c, Fr.rfl', fun q q' e => by cases e⟩
    unfold F_X3_takeNumber F_X3_takeNumber_j31
    rw [Lf_1 L, ob_t, Lf_1 L, ob_t, Lc_1 L, Lc_1 L, C_fl' c, C_fl' c, ob_t, j36]
    repeat' split
    all_goals rfl
  | inl q =>
    obtain ⟨t, h3⟩ := c
    have hq := t.2.1
    have good : ∀ x, okN lo hi (cdT B n q) → ∃ M', F_X3_takeNumber_j36 1 x M = some (x, M') ∧ StC B n M' (numS B n lo hi (.inl q)) ∧ Fr XN M M' := fun x ok => by
      obtain ⟨M', e, k, w⟩ := C_ad t h3
      refine ⟨M', ?_, by rw [num_y ok]; exact k, w⟩
      unfold F_X3_takeNumber_j36
      rw [Lf_1 L, ob_t, h3, if_pos rfl, Lc_1 L, e, ob_t]
    have bad : ∀ x k, 1 ≤ k → k ≤ 5 → numS B n lo hi (.inl q) = .inr (k, plT B n q) → ∃ M', (F_X3_fail 1 (nI k) M).bind (fun M9 => F_X3_takeNumber_j36 1 x M9) = some (x, M') ∧ StC B n M' (numS B n lo hi (.inl q)) ∧ Fr XN M M' := fun x k h1 h5 e => by
      obtain ⟨M', e1, f1, w1, -⟩ := C_fl t h3 h1 h5
      refine ⟨M', ?_, by rw [e]; exact f1, w1⟩
      rw [e1, ob_t]
      unfold F_X3_takeNumber_j36
      rw [Lf_1 f1.1, ob_t, f1.2.1, if_neg (neL0 (by omega) (by omega))]
    unfold F_X3_takeNumber
    rw [Lf_1 L, ob_t, t.kind, ob_t]
    by_cases k3 : cdT B n q = 17 ∨ 1000 ≤ cdT B n q
    · rw [if_pos (t.k3.mpr k3), t.num k3]
      have cl := cd_le hq t.b
      by_cases c17 : cdT B n q = 17
      · obtain ⟨M', e1, k1, w1⟩ := bad (-1) 2 (by omega) (by omega) (num_n (by unfold okN; omega) k3)
        refine ⟨-1, M', ?_, k1, w1, fun q0 q' _ e' => ?_⟩
        · rw [if_pos c17, if_pos (show (-1 : Int32) < nI lo from ?_)]
          · unfold F_X3_takeNumber_j31
            rw [Lc_1 L, show (2 : Int32) = nI 2 from rfl, e1]
          · rw [Int32.lt_iff_toInt_lt, nI_toInt (by omega)]
            show (-1 : Int) < _
            omega
        · rw [num_n (by unfold okN; omega) k3] at e'; cases e'
      · rw [if_neg c17]
        by_cases ok : okN lo hi (cdT B n q)
        · obtain ⟨M', e1, k1, w1⟩ := good (nI (cdT B n q - 1000)) ok
          unfold okN at ok
          refine ⟨nI (cdT B n q - 1000), M', ?_, k1, w1, fun q0 q' e _ => by cases e; rfl⟩
          rw [if_neg (nI_nlt (by omega) (by omega)), if_pos (nI_le (by omega) (by omega)), e1]
        · obtain ⟨M', e1, k1, w1⟩ := bad (nI (cdT B n q - 1000)) 2 (by omega) (by omega) (num_n ok k3)
          have j31 : F_X3_takeNumber_j31 1 (nI (cdT B n q - 1000)) M = some (nI (cdT B n q - 1000), M') := by
            unfold F_X3_takeNumber_j31
            rw [Lc_1 L, show (2 : Int32) = nI 2 from rfl, e1]
          refine ⟨nI (cdT B n q - 1000), M', ?_, k1, w1, fun q0 q' _ e' => by rw [num_n ok k3] at e'; cases e'⟩
          by_cases lt : cdT B n q - 1000 < lo
          · rw [if_pos (nI_lt lt (by omega)), j31]
          · rw [if_neg (nI_nlt (by omega) (by omega)), if_neg (nI_ge (by unfold okN at ok; omega) (by omega)), j31]
    · obtain ⟨M', e1, k1, w1⟩ := bad (mI M 1 8) 1 (by omega) (by omega) (num_w k3)
      refine ⟨mI M 1 8, M', ?_, k1, w1, fun q0 q' _ e' => by rw [num_w k3] at e'; cases e'⟩
      rw [if_neg (fun y => k3 (t.k3.mp y)), Lc_1 L, show (1 : Int32) = nI 1 from rfl, e1]
end
