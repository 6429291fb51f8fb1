/-! ===== whether all that is seen of a house will be so ===== -/
section
variable {M M' : Mem} {p u h n : Nat} {g : Pg} {s s' : Sg} {D : Int} {E : List Se} {v : Int32}
theorem mx_n {a b : Nat} (ha : a < 2 ^ 31) (hb : b < 2 ^ 31) : mxI (nI a) (nI b) = nI (max a b) := by
  rw [ti_eq, mxI_toInt, nI_toInt ha, nI_toInt hb]
  by_cases c : a ≤ b
  · rw [Nat.max_eq_right c, nI_toInt hb]; omega
  · rw [Nat.max_eq_left (by omega), nI_toInt ha]; omega
theorem mx_m {b : Nat} (hb : b < 2 ^ 31) : mxI (-1) (nI b) = nI b := by
  rw [ti_eq, mxI_toInt, nI_toInt hb, show (-1 : Int32).toInt = -1 from rfl]; omega
def loB (E : List Se) (h i : Nat) (x : Int32) : Prop := (x = -1 ∧ ∀ j e, j < i → E[j]? = some e → e.1 ≠ h) ∨ ∃ n, n ≤ 20 ∧ x = nI n ∧ ∀ j e, j < i → E[j]? = some e → e.1 = h → e.2.1 ≤ n
theorem C_longest (hL : Lay M) (hs : SeV M 40 g E) (hg : GdP g) (hh : h < gH g) : ∃ x, F_X5_longest 40 (nI h) M = some x ∧ loB E h E.length x := by
  have g1 := hg.1
  obtain ⟨h1, h8, h2⟩ := hs
  obtain ⟨x, e, hx⟩ := loop_ex (step := fun z : Int32 × Int32 => F_X5_longest_s4 40 (nI h) M z.1 z.2) (fun i z => z.2 = nI i ∧ loB E h i z.1) (fun x => loB E h E.length x) E.length (by
    rintro i ⟨x, j⟩ hi ⟨z1, z2⟩
    dsimp only at z1 z2
    subst z1
    unfold F_X5_longest_s4
    dsimp only
    rw [Lf_40 hL, ob_t, h1]
    by_cases c : i = E.length
    · subst c
      rw [if_pos (nI_le (Nat.le_refl _) (by omega))]
      exact Or.inl ⟨x, rfl, z2⟩
    · have hi' : i < E.length := by omega
      obtain ⟨e, he⟩ : ∃ e, E[i]? = some e := ⟨E[i], List.getElem?_eq_getElem hi'⟩
      obtain ⟨q1, q2, -, q4, q5, -⟩ := h2 i e he
      have q1' : mI M 41 i = nI e.1 := q1
      have q2' : mI M 42 i = nI e.2.1 := q2
      refine Or.inr ⟨hi', ?_⟩
      rw [if_neg (nI_ge hi' (by omega)), Lp_40_0 hL, ob_t, La_41 hL (by omega), ob_t, q1', nI_1, Lp_40_1 hL, ob_t, La_42 hL (by omega), ob_t, q2']
      by_cases c1 : e.1 = h
      · rw [if_pos (by rw [c1])]
        refine ⟨_, rfl, rfl, ?_⟩
        dsimp only
        rcases z2 with ⟨y1, y2⟩ | ⟨n, y1, y2, y3⟩
        · refine Or.inr ⟨e.2.1, q5, by rw [y1]; exact mx_m (by omega), fun j e' hj hje hh' => ?_⟩
          by_cases d : j = i
          · subst d; rw [he] at hje; rw [← Option.some.inj hje]; exact Nat.le_refl _
          · exact absurd hh' (y2 j e' (by omega) hje)
        · refine Or.inr ⟨max n e.2.1, by omega, by rw [y2]; exact mx_n (by omega) (by omega), fun j e' hj hje hh' => ?_⟩
          by_cases d : j = i
          · subst d; rw [he] at hje; rw [← Option.some.inj hje]; omega
          · have := y3 j e' (by omega) hje hh'; omega
      · rw [if_neg (fun z => c1 ((nI_eq (by omega) (by omega)).mp z))]
        refine ⟨_, rfl, rfl, ?_⟩
        dsimp only
        rcases z2 with ⟨y1, y2⟩ | ⟨n, y1, y2, y3⟩
        · refine Or.inl ⟨y1, fun j e' hj hje hh' => ?_⟩
          by_cases d : j = i
          · subst d; rw [he] at hje; rw [← Option.some.inj hje] at hh'; exact c1 hh'
          · exact y2 j e' (by omega) hje hh'
        · refine Or.inr ⟨n, y1, y2, fun j e' hj hje hh' => ?_⟩
          by_cases d : j = i
          · subst d; rw [he] at hje; rw [← Option.some.inj hje] at hh'; exact absurd hh' c1
          · exact y3 j e' (by omega) hje hh') (s := ((-1 : Int32), (0 : Int32))) ⟨rfl, Or.inl ⟨rfl, fun j e hj => by omega⟩⟩
  refine ⟨x, ?_, hx⟩
  unfold F_X5_longest
  rw [e, ob_t]
def agr (g : Pg) (s' : Sg) (E : List Se) (h : Nat) : Prop := ∀ e, e ∈ E → e.1 = h → sWor (passN g e.2.1 s') h = e.2.2
noncomputable def agI (g : Pg) (s' : Sg) (E : List Se) (h : Nat) : Int32 := by classical exact if agr g s' E h then 1 else 0
theorem agI_y (z : agr g s' E h) : agI g s' E h = 1 := by unfold agI; rw [if_pos z]
theorem agI_n (z : ¬ agr g s' E h) : agI g s' E h = 0 := by unfold agI; rw [if_neg z]
theorem CLa.alone' (c : CLa M p g s s' D) {d : Int32} (hh : h < gH g) (hd : GdS (D + 1) g (aloneS g s' h d)) : ∃ M', F_X2_passAlone p 31 (nI h) d M = some M' ∧ CLa M' p g s (aloneS g s' h d) (D + 1) ∧ QC M M' ∧ mL M' = mL M := by
  obtain ⟨M', e, hs, w⟩ := F_alone (d := d) c.1.pl c.2.1 c.2.2 (by have := c.1.2.1; omega) (by unfold NC; omega) hh
  have wc : QC M M' := w.c fun k hk => WLc c.1.2.1 hk
  exact ⟨M', e, ⟨c.1.c wc, hs, hd⟩, wc, w.2.1⟩
theorem CQ.copyL' (c : CQ M p g s) : ∃ M', F_X6_copy 31 24 M = some M' ∧ CLa M' p g s s 999 ∧ QC M M' ∧ mL M' = mL M := by
  obtain ⟨M', e, hs, w⟩ := F_copy (a := 31) (b := 24) (c.1.StO (Or.inr (Or.inl rfl))) c.st c.gd c.gp (Or.inr (by omega))
  have wc : QC M M' := w.c (by decide)
  exact ⟨M', e, ⟨c.c wc, hs, c.gd⟩, wc, w.2.1⟩
theorem CLa.agrees (c : CLa M p g s s' D) (hs : SeV M 40 g E) (hh : h < gH g) (hD : D < 1000) : ∃ M', F_X8_agreesFromLater 0 (nI h) M = some (agI g s' E h, M') ∧ QC M M' ∧ mL M' = mL M := by
  have g1 := c.1.gp.1
  obtain ⟨x, e1, hx⟩ := C_longest c.1.1 hs c.1.gp hh
  obtain ⟨K, k21, k1, k2, k3⟩ : ∃ K, K ≤ 21 ∧ x < nI K ∧ (∀ i, i < K → ¬ x < nI i) ∧ ∀ e, e ∈ E → e.1 = h → e.2.1 < K := by
    rcases hx with ⟨y1, y2⟩ | ⟨n, y1, y2, y3⟩
    · refine ⟨0, by omega, by rw [y1]; decide, fun i hi => by omega, fun e he z => ?_⟩
      obtain ⟨i, hi, ei⟩ := List.getElem_of_mem he
      exact absurd z (y2 i e hi (by rw [List.getElem?_eq_getElem hi, ei]))
    · refine ⟨n + 1, by omega, by rw [y2]; exact nI_lt (by omega) (by omega), fun i hi => by rw [y2]; exact nI_nlt (by omega) (by omega), fun e he z => ?_⟩
      obtain ⟨i, hi, ei⟩ := List.getElem_of_mem he
      have := y3 i e hi (by rw [List.getElem?_eq_getElem hi, ei]) z
      omega
  have lo := fun i (hi : i < 50000) => loc_N c.1.gp c.2.2 hh (by omega) i hi
  obtain ⟨M2, e2, w2⟩ := loop_f (step := fun z : Int32 × Mem => F_X8_agreesFromLater_s11 0 (nI h) x z.1 z.2) (fun i M' => (nI i, M')) (fun M' => .inl M') (fun i M' => .inr (0, M')) (fun i => ∃ e, e ∈ E ∧ e.1 = h ∧ e.2.1 = i ∧ e.2.2 ≠ sWor (aloN g h s' i) h) (fun i M' => CLa M' p g s (aloN g h s' i) (D + i) ∧ QC M M' ∧ mL M' = mL M) (fun M' => QC M M' ∧ mL M' = mL M) K (by
    rintro i M' hi ⟨c', w', l'⟩
    obtain ⟨M4, e4, c4, w4, l4⟩ := c'.alone' (d := dampS g (aloN g h s' i)) hh (c'.2.2.alone c'.1.gp hh (by omega))
    unfold F_X8_agreesFromLater_s11
    dsimp only
    rw [if_neg (k2 i hi), Lp_0_7 c'.1.1, ob_t, Lp_0_5 c'.1.1, ob_t, Lp_31_4 c'.1.1, ob_t, c'.wor hh, ob_t, Lc_40 c'.1.1]
    rcases C_agr1 (v := sWor (aloN g h s' i) h) (n := i) c'.1.1 (hs.qc w') c'.1.gp hh (by omega) with ⟨y, ye⟩ | ⟨y, ye⟩
    · rw [ye, ob_t, if_neg (by decide), c'.1.pp, ob_t, ob_t, ob_t, ob_t, c'.1.ck, c'.damp, ob_t, c'.1.ck, e4, ob_t, nI_1]
      exact Or.inr ⟨fun ⟨e, z1, z2, z3, z4⟩ => z4 (y e z1 z2 z3), M4, rfl, ⟨c4.1, c4.2.1, c4.2.2.mono (by omega)⟩, w'.trans w4, l4.trans l'⟩
    · rw [ye, ob_t, if_pos rfl]
      exact Or.inl ⟨y, M', rfl, w', l'⟩) (by
    rintro M' ⟨c', w', l'⟩
    refine ⟨?_, w', l'⟩
    unfold F_X8_agreesFromLater_s11
    dsimp only
    rw [if_pos k1]) K 0 M (by omega) ⟨⟨c.1, c.2.1, c.2.2.mono (by omega)⟩, QC.rfl', rfl⟩
  refine ⟨M2, ?_, w2⟩
  unfold F_X8_agreesFromLater
  rw [Lp_0_7 c.1.1, ob_t, Lc_40 c.1.1, e1, ob_t]
  split at e2
  · rename_i z
    obtain ⟨e, z1, z2, z3, z4⟩ := fsN_at (P := fun i => ∃ e, e ∈ E ∧ e.1 = h ∧ e.2.1 = i ∧ e.2.2 ≠ sWor (aloN g h s' i) h) K 0 (by omega)
    have no : ¬ agr g s' E h := fun q => z4 (by
      have := q e z1 z2
      rw [← z3, ← this]
      exact (lo e.2.1 (by have := k3 e z1 z2; omega)).2.2.2.2.1)
    have e2' : loop (fun z : Int32 × Mem => F_X8_agreesFromLater_s11 0 (nI h) x z.1 z.2) ((0 : Int32), M) = _ := e2
    rw [e2', ob_t, agI_n no]; rfl
  · rename_i z
    have yes : agr g s' E h := fun e he z1 => by
      have a := fsN_lt (P := fun i => ∃ e, e ∈ E ∧ e.1 = h ∧ e.2.1 = i ∧ e.2.2 ≠ sWor (aloN g h s' i) h) K 0 e.2.1 (by omega) (by have := k3 e he z1; omega)
      have b : e.2.2 = sWor (aloN g h s' e.2.1) h := Classical.byContradiction fun q => a ⟨e, he, z1, rfl, q⟩
      rw [b]
      exact (lo e.2.1 (by have := k3 e he z1; omega)).2.2.2.2.1
    have e2' : loop (fun z : Int32 × Mem => F_X8_agreesFromLater_s11 0 (nI h) x z.1 z.2) ((0 : Int32), M) = _ := e2
    rw [e2', ob_t, agI_y yes]; rfl
end
