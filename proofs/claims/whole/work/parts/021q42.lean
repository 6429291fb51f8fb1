/-! ===== what is seen, by the reference ===== -/
section
variable {M M' : Mem} {p u h n : Nat} {g : Pg} {s s' : Sg} {D : Int} {E : List Se} {v : Int32}
theorem MLa.day' (m : MLa M g s s' D) (hD : D < 100000) : ∃ M', F_X9_dayGoes 67 43 M = some M' ∧ MLa M' g s (passS g s') (D + 1) ∧ WB 43 M M' := by
  obtain ⟨M', e, m', w⟩ := m.2.dayG hD
  have eo : dmp (mI M 67 46) g s' = dampS g s' := by unfold dmp; rw [if_pos m.1.1.2]
  rw [eo] at m'
  exact ⟨M', e, ⟨m.1.wb w, m'⟩, w⟩
theorem MLa.w9 {L : List Nat} (m : MLa M g s s' D) (w : Wr L M M') (h : ∀ k ∈ L, k = 92 ∨ k = 93) : MLa M' g s s' D ∧ QW M M' := by
  have hL : ∀ k ∈ L, k ∈ ScL := fun k hk => by rcases h k hk with e | e <;> subst e <;> decide
  obtain ⟨z, q⟩ := m.1.wr w hL
  refine ⟨⟨z, z.lay, z.b.2.1, rfl, Nat.le_refl _, ?_, m.2.gd⟩, q⟩
  rw [wr_mI w (fun y => by have := h 83 y; omega)]
  exact m.2.rw
def seW (s' : Sg) (E : List Se) (d i : Nat) : Prop := ∃ e, E[i]? = some e ∧ e.2.1 = d ∧ sWor s' e.1 ≠ e.2.2
theorem M_seen1 {d : Nat} (m : MLa M g s s' D) (hs : SeM M (mI M 67 51) 91 E) (hE : ∀ e, e ∈ E → e.1 < gH g ∧ e.2.1 ≤ 20) (hd : d ≤ 20) : ((∀ e, e ∈ E → e.2.1 = d → sWor s' e.1 = e.2.2) ∧ loop (fun z : Int32 => F_X9_isSeen_s10 67 (nI d) M z) (0 : Int32) = some (.inl ())) ∨ ((∃ e, e ∈ E ∧ e.2.1 = d ∧ sWor s' e.1 ≠ e.2.2) ∧ loop (fun z : Int32 => F_X9_isSeen_s10 67 (nI d) M z) (0 : Int32) = some (.inr (0, M))) := by
  have g1 := m.1.b.gp.1
  have hL := m.1.lay
  obtain ⟨h1, h8, h2⟩ := hs
  obtain ⟨-, e, -⟩ := loop_f (step := fun z : Int32 => F_X9_isSeen_s10 67 (nI d) M z) (fun i _ => nI i) (fun _ => .inl ()) (fun _ _ => .inr (0, M)) (seW s' E d) (fun _ _ => True) (fun _ => True) E.length (by
    intro i _ hi _
    obtain ⟨e, he⟩ : ∃ e, E[i]? = some e := ⟨E[i], List.getElem?_eq_getElem hi⟩
    obtain ⟨q1, q2, q3⟩ := h2 i e he
    obtain ⟨b1, b2⟩ := hE e (List.mem_of_getElem? he)
    have un : ∀ e', E[i]? = some e' → e' = e := fun e' z => by rw [he] at z; exact (Option.some.inj z).symm
    have x0 : (3 : Int32) * nI i = nI (3 * i) := nI_mul (a := 3)
    have x1 : nI (3 * i) + (1 : Int32) = nI (3 * i + 1) := nI_1 _
    have x2 : nI (3 * i) + (2 : Int32) = nI (3 * i + 2) := nI_add _ 2
    unfold F_X9_isSeen_s10
    rw [Lf_67 hL, ob_t, h1, if_neg (nI_ge hi (by omega)), Lp_67_52 hL, ob_t, x0, x1, x2, La_91 hL (by omega), ob_t, q2, nI_1, Lp_67_41 hL, ob_t, ob_t, La_91 hL (by omega), ob_t, q1, m.wor b1, ob_t, ob_t, La_91 hL (by omega), ob_t, q3]
    by_cases c2 : e.2.1 = d
    · rw [if_pos (by rw [c2])]
      by_cases c3 : sWor s' e.1 = e.2.2
      · rw [if_pos c3]
        exact Or.inr ⟨fun ⟨e', z, _, z3⟩ => by rw [un e' z] at z3; exact z3 c3, M, rfl, trivial⟩
      · rw [if_neg c3]
        exact Or.inl ⟨⟨e, he, c2, c3⟩, M, rfl, trivial⟩
    · rw [if_neg (fun z => c2 ((nI_eq (by omega) (by omega)).mp z))]
      exact Or.inr ⟨fun ⟨e', z, z2, _⟩ => by rw [un e' z] at z2; exact c2 z2, M, rfl, trivial⟩) (by
    intro _ _
    refine ⟨?_, trivial⟩
    unfold F_X9_isSeen_s10
    rw [Lf_67 hL, ob_t, h1, if_pos (nI_le (Nat.le_refl _) (by omega))]) E.length 0 M (by omega) trivial
  split at e
  · rename_i z
    right
    obtain ⟨e', y1, y2⟩ := fsN_at (P := seW s' E d) E.length 0 (by omega)
    exact ⟨⟨e', List.mem_of_getElem? y1, y2⟩, e⟩
  · rename_i z
    left
    refine ⟨fun e' he y1 => ?_, e⟩
    obtain ⟨i, hi, ei⟩ := List.getElem_of_mem he
    have := fsN_lt (P := seW s' E d) E.length 0 i (by omega) (by omega)
    exact Classical.byContradiction fun c => this ⟨e', by rw [List.getElem?_eq_getElem hi, ei], y1, c⟩
theorem M_soon (m : MLa M g s s' D) : ∃ M', loop (fun z : Int32 × Mem => F_X9_isSeen_s76 67 z.1 z.2) ((0 : Int32), M) = some M' ∧ Wr [92] M M' ∧ ∀ h, h < gH g → mI M' 92 h = sWor s' h := by
  have g1 := m.1.b.gp.1
  exact loop_mm (step := fun z : Int32 × Mem => F_X9_isSeen_s76 67 z.1 z.2) (fun i M' => (nI i, M')) (fun M' => M') (gH g) (fun i M' => Wr [92] M M' ∧ ∀ h, h < i → mI M' 92 h = sWor s' h) (M := M) ⟨Wr.rfl', fun h z => by omega⟩ (by
    rintro i M' hi ⟨w', h'⟩
    have m' := (m.w9 w' (by decide)).1
    refine ⟨stI M' 92 i (sWor s' i), ?_, w'.st (by decide), fun h hh => ?_⟩
    · unfold F_X9_isSeen_s76
      dsimp only
      rw [m'.1.b.nH, ob_t, if_neg (nI_ge hi (show gH g < 2 ^ 31 by omega)), Lp_67_53 m'.1.lay, ob_t, Lp_67_41 m'.1.lay, ob_t, m'.wor hi, ob_t, Lw_92 m'.1.lay (by omega), ob_t, nI_1]
    · rw [mI_steq]
      by_cases e : h = i
      · subst e; rw [upg_eq]
      · rw [upg_ne e]; exact h' h (by omega)) (by
    rintro M' ⟨w', -⟩
    unfold F_X9_isSeen_s76
    dsimp only
    rw [(m.w9 w' (by decide)).1.1.b.nH, ob_t, if_pos (nI_le (Nat.le_refl (gH g)) (show gH g < 2 ^ 31 by omega))])
end
