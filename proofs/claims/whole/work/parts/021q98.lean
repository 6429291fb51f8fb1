/-! ===== a text is read: the class, whole ===== -/
section
variable {M M' M1 M2 N N' : Mem} {B : Nat → Nat} {n q p t : Nat} {X Y : Nat → Nat → Prop} {G : Gt}
theorem wr_rem {s : RsT} {f : Nat → Gt} (h : ∀ q, remG (f q) = remG G) : remR (withR s f) ≤ remG G := by
  cases s with
  | inl q => exact Nat.le_of_eq (h q)
  | inr x => exact Nat.zero_le _
theorem hs_rem : remR (hsL B n G q) ≤ remG G := by
  unfold hsL
  split
  · exact Nat.zero_le _
  · exact wr_rem fun _ => rfl
theorem ps_rem : remR (psL B n G q) ≤ remG G := by
  unfold psL
  split
  · exact Nat.zero_le _
  · split
    · exact Nat.zero_le _
    · split
      · exact wr_rem fun _ => rfl
      · exact Nat.le_refl _
theorem dp_rem : remR (dpL B n G q) ≤ remG G := by
  unfold dpL
  split
  · exact Nat.zero_le _
  · split
    · exact Nat.zero_le _
    · exact Nat.le_refl _
theorem GrC.fr {a b : Nat} (w : Fr X M M') (h : b ≤ a) : GrC M M' a b := by
  unfold GrC; rw [w.1, w.2.2.1]; omega
theorem GrC.trans {a b c : Nat} (h : GrC M M1 a b) (h' : GrC M1 M2 b c) : GrC M M2 a c := by unfold GrC at *; omega
theorem C_line (hp : p = 4 ∨ p = 14) (c : LnC B n p M (.inl (G, q))) (r1 : M.1.length + 2 * remG G ≤ CLM) (r2 : mS M + 701 * remG G ≤ SLM) : ∃ M', F_X3_line 1 p M = some M' ∧ LnC B n p M' (lnL B n G q) ∧ Kp (XL p) (YL p) M M' ∧ GrC M M' (remG G) (remR (lnL B n G q)) := by
  have L := c.1.1.1.1
  have ws : ∀ j, 1 ≤ j → j ≤ 15 → F_X3_isWord 1 j M = some (if cdT B n q = j then 1 else 0) := fun j a b => c.1.1.isW a b
  unfold F_X3_line lnL
  rw [Lc_1 L, ws 1 (by omega) (by omega), ob_t]
  by_cases c1 : cdT B n q = 1
  · obtain ⟨M', e, l, w⟩ := C_house hp c
    rw [if_pos c1, if_neg (by decide), Lc_1 L, e, ob_t, if_pos c1]
    exact ⟨M', rfl, l, w.kp fun _ _ => XH_L, GrC.fr w hs_rem⟩
  rw [if_neg c1, if_pos rfl, Lc_1 L, ws 2 (by omega) (by omega), ob_t, if_neg c1]
  by_cases c2 : cdT B n q = 2
  · obtain ⟨M', e, l, w⟩ := C_person hp c
    rw [if_pos c2, if_neg (by decide), Lc_1 L, e, ob_t, if_pos c2]
    exact ⟨M', rfl, l, w.kp fun _ _ => XH_L, GrC.fr w ps_rem⟩
  rw [if_neg c2, if_pos rfl, Lc_1 L, ws 4 (by omega) (by omega), ob_t, if_neg c2]
  by_cases c4 : cdT B n q = 4
  · obtain ⟨M', e, l, w⟩ := C_damp hp c
    rw [if_pos c4, if_neg (by decide), Lc_1 L, e, ob_t, if_pos c4]
    exact ⟨M', rfl, l, w.kp fun _ _ => XH_L, GrC.fr w dp_rem⟩
  rw [if_neg c4, if_pos rfl, Lc_1 L, ws 5 (by omega) (by omega), ob_t, if_neg c4]
  by_cases c5 : cdT B n q = 5
  · obtain ⟨M', e, l, w⟩ := C_rule (t := 0) hp (by omega) c (by omega) r1 r2
    have e' : F_X3_ruleLine 1 p (0 : Int32) M = some M' := e
    rw [if_pos c5, if_neg (by decide), Lc_1 L, e', ob_t, if_pos c5]
    exact ⟨M', rfl, l, w⟩
  rw [if_neg c5, if_pos rfl, Lc_1 L, ws 15 (by omega) (by omega), ob_t, if_neg c5]
  by_cases c15 : cdT B n q = 15
  · obtain ⟨M', e, l, w⟩ := C_rule (t := 1) hp (by omega) c (by omega) r1 r2
    have e' : F_X3_ruleLine 1 p (1 : Int32) M = some M' := e
    rw [if_pos c15, if_neg (by decide), Lc_1 L, e', ob_t, if_pos c15]
    exact ⟨M', rfl, l, w⟩
  · obtain ⟨M', e, f, w, -⟩ := C_fl (k := 1) c.1.1 c.1.2 (by omega) (by omega)
    rw [if_neg c15, if_pos rfl, Lc_1 L, show (1 : Int32) = nI 1 from rfl, e, ob_t, if_neg c15]
    exact ⟨M', rfl, f, w.kp fun k j y => by unfold XN at y; unfold XL; omega, GrC.fr w (Nat.zero_le _)⟩
noncomputable def sgE (B : Nat → Nat) (n : Nat) : RlT → RlT
  | .inr f => .inr f
  | .inl (G', q') => if cdT B n q' = 79 then .inl (G', enT B n q') else .inr (1, plT B n q')
theorem lnE_s : lnE B n G q = sgE B n (lnL B n G q) := by
  unfold lnE sgE
  cases lnL B n G q with
  | inl r => rfl
  | inr f => rfl
theorem C_sign {r : RlT} (c : LnC B n p M r) (hp : p = 4 ∨ p = 14) : ∃ M', F_X3_takeSign 1 (59 : Int32) M = some M' ∧ LnC B n p M' (sgE B n r) ∧ Fr XN M M' ∧ remR (sgE B n r) ≤ remR r := by
  cases r with
  | inr f =>
    have L := c.1
    refine ⟨M, ?_, c, Fr.rfl', Nat.le_refl _⟩
    have h : CFt B n M f.1 f.2 := c
    have nz : ¬ mI M 1 3 = 0 := by rw [h.2.1]; exact neL0 (by have := h.2.2.2.1; omega) (by have := h.2.2.2.1; omega)
    unfold F_X3_takeSign
    obtain ⟨q, t⟩ := h.2.2.2.2
    have ev : F_X3_isSign 1 (59 : Int32) M = _ := t.isS (c := 59) (by decide) (by omega)
    rw [Lc_1 L, ev, ob_t, Lc_1 L, Lf_1 L, ob_t, if_neg nz, C_fl' h, ob_t]
    split <;> rfl
  | inl x =>
    obtain ⟨G', q'⟩ := x
    obtain ⟨⟨t, h3⟩, dr⟩ := c
    have L := t.1.1
    have dk : ∀ {M'}, Fr XN M M' → DrV M' p G' := fun {M'} w => by
      obtain ⟨d1, d2, d3, d4, d5, d6, d7⟩ := dr
      have o : ∀ k, k ≠ 1 → mI M' k = mI M k := fun k hk => funext fun j => w.at (fun y => hk y.1)
      have nx : ∀ k j, NC ≤ k → ¬ XN k j := fun k j hk y => by
        have hk : 98 ≤ k := hk
        have := y.1; omega
      refine ⟨by rw [o p (by omega)]; exact d1, d2, fun h hh => by rw [o _ (by omega), o _ (by omega), o _ (by omega)]; exact d3 h hh, fun i hi => by rw [o _ (by omega), o _ (by omega), o _ (by omega)]; exact d4 i hi, fun i hi => by rw [o _ (by omega)]; exact d5 i hi, by rw [w.2.1]; exact d6.fr w nx, by rw [w.2.1]; exact d7.fr w nx⟩
    unfold F_X3_takeSign sgE
    rw [Lc_1 L, show F_X3_isSign 1 (59 : Int32) M = some (if cdT B n q' = 79 then 1 else 0) from t.isS (c := 59) (by decide) (by omega), ob_t]
    dsimp only
    by_cases c79 : cdT B n q' = 79
    · obtain ⟨M', e, s, w⟩ := C_ad t h3
      rw [if_pos c79, if_neg (by decide), Lf_1 L, ob_t, h3, if_pos rfl, Lc_1 L, e, ob_t, if_pos c79]
      exact ⟨M', rfl, ⟨s, dk w⟩, w, Nat.le_refl _⟩
    · obtain ⟨M', e, f, w, -⟩ := C_fl (k := 1) t h3 (by omega) (by omega)
      rw [if_neg c79, if_pos rfl, Lc_1 L, show (1 : Int32) = nI 1 from rfl, e, ob_t, if_neg c79]
      exact ⟨M', rfl, f, w, Nat.zero_le _⟩
end
