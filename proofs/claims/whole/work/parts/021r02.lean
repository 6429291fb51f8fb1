/-! ===== a text is read: what is told is small ===== -/
section
variable {B : Nat → Nat} {n q : Nat} {G : Gt}
def GdG (G : Gt) : Prop := (tH G ≤ 8 ∧ tP G ≤ 8 ∧ tD G ≤ 8) ∧ (∀ h, h < tH G → bnd (tSiz G h) 1 60 ∧ bnd (tGiv G h) 0 9 ∧ bnd (tStr G h) 0 30) ∧ (∀ i, i < tP G → bnd (tHee G i) 1 60 ∧ bnd (tGro G i) 0 9 ∧ (tHom G i = -1 ∨ ∃ h, h < tH G ∧ tHom G i = nI h)) ∧ (∀ i j, i < tP G → j < tP G → tHom G i = tHom G j → tHom G i ≠ -1 → i = j) ∧ (∀ i, i < tD G → bnd (tDam G i) 0 9) ∧ (∀ l, tEas G = some l → ∃ f, Bal (HH 0 0) l f) ∧ (∀ l, tBur G = some l → ∃ f, Bal (HH 0 0) l f)
theorem ok_b {lo hi : Nat} (h : okN lo hi (cdT B n q)) (h9 : hi ≤ 9999) : bnd (nvT B n q) lo hi := by
  unfold okN at h
  unfold bnd nvT
  rw [nI_toInt (by omega)]; omega
theorem ok_e {lo hi : Nat} (hq : q ≤ n) (h : okN lo hi (cdT B n q)) : q < enT B n q ∧ enT B n q ≤ n := by
  unfold okN at h
  have := cd_en (B := B) hq (by omega)
  omega
theorem g_hs (hq : q ≤ n) (hc : cdT B n q ≠ 0) (g : GdG G) {G' : Gt} {q' : Nat} (h : hsL B n G q = .inl (G', q')) : GdG G' ∧ q < q' ∧ q' ≤ n := by
  obtain ⟨g1, g2, g3, g4, g5, g6, g7⟩ := g
  have ce := cd_en hq hc
  unfold hsL at h
  by_cases h8 : tH G = 8
  · rw [if_pos h8] at h; cases h
  · rw [if_neg h8] at h
    cases hs : numS B n 0 30 (numS B n 0 9 (numS B n 1 60 (.inl (enT B n q)))) with
    | inr f => rw [hs] at h; cases h
    | inl q4 =>
      rw [hs] at h
      obtain ⟨q3, e3, k3, z3⟩ := num_i hs
      obtain ⟨q2, e2, k2, z2⟩ := num_i e3
      obtain ⟨q1, e1, k1, z1⟩ := num_i e2
      have e1 := Sum.inl.inj e1
      subst e1
      subst z1
      subst z2
      have a1 := ok_e ce.2.1 k1
      have a2 := ok_e a1.2 k2
      have a3 := ok_e a2.2 k3
      have h := Sum.inl.inj h
      have hG := congrArg Prod.fst h
      have hQ : q4 = q' := congrArg Prod.snd h
      dsimp only at hG
      subst hG
      refine ⟨⟨⟨by show tH G + 1 ≤ 8; omega, g1.2⟩, fun j hj => ?_, fun i hi => ⟨(g3 i hi).1, (g3 i hi).2.1, (g3 i hi).2.2.imp id fun ⟨x, hx, y⟩ => ⟨x, by show x < tH G + 1; omega, y⟩⟩, g4, g5, g6, g7⟩, by omega, by omega⟩
      have hj : j < tH G + 1 := hj
      show bnd (upg (tSiz G) (tH G) _ j) 1 60 ∧ bnd (upg (tGiv G) (tH G) _ j) 0 9 ∧ bnd (upg (tStr G) (tH G) _ j) 0 30
      by_cases e : j = tH G
      · subst e
        rw [upg_eq, upg_eq, upg_eq]
        exact ⟨ok_b k1 (by decide), ok_b k2 (by decide), ok_b k3 (by decide)⟩
      · rw [upg_ne e, upg_ne e, upg_ne e]; exact g2 j (by omega)
theorem g_ps (hq : q ≤ n) (hc : cdT B n q ≠ 0) (g : GdG G) {G' : Gt} {q' : Nat} (h : psL B n G q = .inl (G', q')) : GdG G' ∧ q < q' ∧ q' ≤ n := by
  obtain ⟨g1, g2, g3, g4, g5, g6, g7⟩ := g
  have ce := cd_en hq hc
  unfold psL at h
  by_cases h8 : tP G = 8
  · rw [if_pos h8] at h; cases h
  · rw [if_neg h8] at h
    cases hs : numS B n 0 9 (numS B n 1 60 (.inl (enT B n q))) with
    | inr f => rw [hs] at h; cases h
    | inl q3 =>
      rw [hs] at h
      obtain ⟨q2, e2, k2, z2⟩ := num_i hs
      obtain ⟨q1, e1, k1, z1⟩ := num_i e2
      have e1 := Sum.inl.inj e1
      subst e1
      subst z1
      have a1 := ok_e ce.2.1 k1
      have a2 := ok_e a1.2 k2
      have fin : ∀ hv : Int32, (hv = -1 ∨ ∃ x, x < tH G ∧ hv = nI x) → (hv ≠ -1 → ∀ i, i < tP G → tHom G i ≠ hv) → GdG (tH G, tP G + 1, tD G, tSiz G, tGiv G, tStr G, upg (tHee G) (tP G) (nvT B n (enT B n q)), upg (tGro G) (tP G) (nvT B n (enT B n (enT B n q))), upg (tHom G) (tP G) hv, tDam G, tEas G, tBur G) := fun hv v1 v2 => by
        refine ⟨⟨g1.1, by show tP G + 1 ≤ 8; omega, g1.2.2⟩, g2, fun i hi => ?_, fun i j hi hj e ne => ?_, g5, g6, g7⟩
        · have hi : i < tP G + 1 := hi
          show bnd (upg (tHee G) (tP G) _ i) 1 60 ∧ bnd (upg (tGro G) (tP G) _ i) 0 9 ∧ (upg (tHom G) (tP G) hv i = -1 ∨ ∃ x, x < tH G ∧ upg (tHom G) (tP G) hv i = nI x)
          by_cases e : i = tP G
          · subst e
            rw [upg_eq, upg_eq, upg_eq]
            exact ⟨ok_b k1 (by decide), ok_b k2 (by decide), v1⟩
          · rw [upg_ne e, upg_ne e, upg_ne e]; exact g3 i (by omega)
        · have hi : i < tP G + 1 := hi
          have hj : j < tP G + 1 := hj
          have e : upg (tHom G) (tP G) hv i = upg (tHom G) (tP G) hv j := e
          have ne : upg (tHom G) (tP G) hv i ≠ -1 := ne
          by_cases ei : i = tP G
          · by_cases ej : j = tP G
            · omega
            · rw [ei, upg_eq, upg_ne ej] at e
              rw [ei, upg_eq] at ne
              exact absurd e.symm (v2 ne j (by omega))
          · by_cases ej : j = tP G
            · rw [ej, upg_eq, upg_ne ei] at e
              rw [upg_ne ei] at ne
              exact absurd e (v2 (by rw [← e]; exact ne) i (by omega))
            · rw [upg_ne ei, upg_ne ej] at e
              rw [upg_ne ei] at ne
              exact g4 i j (by omega) (by omega) e ne
      dsimp only at h
      by_cases c3 : cdT B n q3 = 3
      · rw [if_pos c3] at h
        have c3e := cd_en (B := B) (n := n) (q := q3) (by omega) (by omega)
        cases hh : homS B n G (enT B n q3) with
        | inr f => rw [hh] at h; cases h
        | inl q5 =>
          rw [hh] at h
          have h := Sum.inl.inj h
          have hG := congrArg Prod.fst h
          have hQ : q5 = q' := congrArg Prod.snd h
          dsimp only at hG
          unfold homS at hh
          by_cases x1 : cdT B n (enT B n q3) = 17 ∨ 1000 ≤ cdT B n (enT B n q3)
          · rw [if_neg (fun y => y x1)] at hh
            by_cases x2 : cdT B n (enT B n q3) = 17
            · rw [if_pos x2] at hh; cases hh
            · rw [if_neg x2] at hh
              by_cases x3 : tH G ≤ cdT B n (enT B n q3) - 1000
              · rw [if_pos x3] at hh; cases hh
              · rw [if_neg x3] at hh
                by_cases x4 : ∃ i, i < tP G ∧ tHom G i = nvT B n (enT B n q3)
                · rw [if_pos x4] at hh; cases hh
                · rw [if_neg x4] at hh
                  have hh := Sum.inl.inj hh
                  have c5 := cd_en (B := B) (n := n) (q := enT B n q3) (by omega) (by omega)
                  subst hG
                  exact ⟨fin _ (Or.inr ⟨cdT B n (enT B n q3) - 1000, by omega, rfl⟩) (fun _ i hi y => x4 ⟨i, hi, y⟩), by omega, by omega⟩
          · rw [if_pos x1] at hh; cases hh
      · rw [if_neg c3] at h
        have h := Sum.inl.inj h
        have hG := congrArg Prod.fst h
        have hQ : q3 = q' := congrArg Prod.snd h
        dsimp only at hG
        subst hG
        exact ⟨fin (-1) (Or.inl rfl) (fun y => absurd rfl y), by omega, by omega⟩
theorem g_dm : ∀ (m : Nat) (dam : Nat → Int32) (D : Nat) (s : RsT) (dam' : Nat → Int32) (D' q' : Nat), (∀ q, s = .inl q → q ≤ n ∧ ∀ i, i < D → bnd (dam i) 0 9) → D + m = 8 → dmL B n m dam D s = .inl (dam', D', q') → D' ≤ 8 ∧ (∀ i, i < D' → bnd (dam' i) 0 9) ∧ q' ≤ n ∧ ∀ q, s = .inl q → q ≤ q' := by
  intro m
  induction m with
  | zero =>
    intro dam D s dam' D' q' hs hD h
    cases s with
    | inr f => rw [dm_r] at h; cases h
    | inl q =>
      by_cases c : cdT B n q = 17 ∨ 1000 ≤ cdT B n q
      · have : dmL B n 0 dam D (.inl q) = .inr (2, plT B n q) := if_pos c
        rw [this] at h; cases h
      · have : dmL B n 0 dam D (.inl q) = .inl (dam, D, q) := if_neg c
        rw [this] at h
        cases h
        exact ⟨by omega, (hs _ rfl).2, (hs _ rfl).1, fun x e => by cases e; exact Nat.le_refl _⟩
  | succ m ih =>
    intro dam D s dam' D' q' hs hD h
    cases s with
    | inr f => rw [dm_r] at h; cases h
    | inl q =>
      by_cases c : cdT B n q = 17 ∨ 1000 ≤ cdT B n q
      · have e : dmL B n (m + 1) dam D (.inl q) = dmL B n m (upg dam D (nvT B n q)) (D + 1) (numS B n 0 9 (.inl q)) := if_pos c
        rw [e] at h
        have hq := (hs q rfl).1
        have hs' : ∀ q1, numS B n 0 9 (.inl q) = .inl q1 → q1 ≤ n ∧ ∀ i, i < D + 1 → bnd (upg dam D (nvT B n q) i) 0 9 := fun q1 e1 => by
          obtain ⟨q0, z1, z2, z3⟩ := num_i e1
          have z1 := Sum.inl.inj z1
          subst z1
          have oe := ok_e hq z2
          refine ⟨by omega, fun i hi => ?_⟩
          by_cases ei : i = D
          · rw [ei, upg_eq]; exact ok_b z2 (by decide)
          · rw [upg_ne ei]; exact (hs q rfl).2 i (by omega)
        obtain ⟨r1, r2, r3, r4⟩ := ih _ _ _ dam' D' q' hs' (by omega) h
        refine ⟨r1, r2, r3, fun x ex => ?_⟩
        have ex := Sum.inl.inj ex
        subst ex
        cases hn : numS B n 0 9 (.inl q) with
        | inr f => rw [hn, dm_r] at h; cases h
        | inl q1 =>
          obtain ⟨q0, z1, z2, z3⟩ := num_i hn
          have z1 := Sum.inl.inj z1
          subst z1
          have := ok_e hq z2
          have := r4 q1 hn
          omega
      · have : dmL B n (m + 1) dam D (.inl q) = .inl (dam, D, q) := if_neg c
        rw [this] at h
        cases h
        exact ⟨by omega, (hs _ rfl).2, (hs _ rfl).1, fun x e => by cases e; exact Nat.le_refl _⟩
theorem g_dp (hq : q ≤ n) (hc : cdT B n q ≠ 0) (g : GdG G) {G' : Gt} {q' : Nat} (h : dpL B n G q = .inl (G', q')) : GdG G' ∧ q < q' ∧ q' ≤ n := by
  obtain ⟨g1, g2, g3, g4, g5, g6, g7⟩ := g
  have ce := cd_en hq hc
  unfold dpL at h
  by_cases h8 : 0 < tD G
  · rw [if_pos h8] at h; cases h
  · rw [if_neg h8] at h
    cases hs : dmL B n 7 (upg (tDam G) 0 (nvT B n (enT B n q))) 1 (numS B n 0 9 (.inl (enT B n q))) with
    | inr f => rw [hs] at h; cases h
    | inl r =>
      obtain ⟨dam, D, q1⟩ := r
      rw [hs] at h
      cases hn : numS B n 0 9 (.inl (enT B n q)) with
      | inr f => rw [hn, dm_r] at hs; cases hs
      | inl q2 =>
        obtain ⟨q0, z1, z2, z3⟩ := num_i hn
        have z1 := Sum.inl.inj z1
        subst z1
        have oe := ok_e ce.2.1 z2
        obtain ⟨r1, r2, r3, r4⟩ := g_dm 7 _ 1 _ dam D q1 (fun x ex => by
          rw [hn] at ex
          have ex := Sum.inl.inj ex
          refine ⟨by omega, fun i hi => ?_⟩
          have : i = 0 := by omega
          rw [this, upg_eq]; exact ok_b z2 (by decide)) (by omega) hs
        have r4 := r4 q2 hn
        have h := Sum.inl.inj h
        have hG := congrArg Prod.fst h
        have hQ : q1 = q' := congrArg Prod.snd h
        dsimp only at hG
        subst hG
        exact ⟨⟨⟨g1.1, g1.2.1, r1⟩, g2, g3, g4, r2, g6, g7⟩, by omega, by omega⟩
theorem g_ru {t : Nat} (ht : t ≤ 1) (hB : ∀ i, i < n → B i < 256) (hq : q ≤ n) (hc : cdT B n q ≠ 0) (g : GdG G) {G' : Gt} {q' : Nat} (h : ruL B n t G q = .inl (G', q')) : GdG G' ∧ q < q' ∧ q' ≤ n := by
  obtain ⟨g1, g2, g3, g4, g5, g6, g7⟩ := g
  have ce := cd_en hq hc
  have pb := pj_b (B := B) (n := n) (t := t) 37 0 0 ([], enT B n q, 0, 0) ce.2.1
  have bs := B_sim (B := B) (n := n) (t := t) ht hB 37 0 0 (by omega) (by omega) ([], enT B n q, 0, 0) ce.2.1 rfl
  unfold ruL at h
  generalize pjP B n t 37 0 0 ([], enT B n q, 0, 0) = σ at *
  by_cases old : (if t = 0 then tEas G else tBur G) ≠ none
  · rw [if_pos old] at h; cases h
  · rw [if_neg old] at h
    by_cases k : σ.2.2.1 = 0
    · rw [if_pos k] at h
      obtain ⟨c, f, e1, b1⟩ := bs k
      have e1 : σ.1 = c := e1
      have p1 : enT B n q ≤ σ.2.1 := pb.1
      have p2 := pb.2.1
      have h := Sum.inl.inj h
      have hG := congrArg Prod.fst h
      have hQ : σ.2.1 = q' := congrArg Prod.snd h
      dsimp only at hG
      subst hG
      refine ⟨⟨g1, g2, g3, g4, g5, fun l hl => ?_, fun l hl => ?_⟩, by omega, by omega⟩
      · have hl : (if t = 0 then some σ.1 else tEas G) = some l := hl
        by_cases t0 : t = 0
        · rw [if_pos t0] at hl
          have := Option.some.inj hl
          rw [← this, e1]; exact ⟨f, b1⟩
        · rw [if_neg t0] at hl; exact g6 l hl
      · have hl : (if t = 0 then tBur G else some σ.1) = some l := hl
        by_cases t0 : t = 0
        · rw [if_pos t0] at hl; exact g7 l hl
        · rw [if_neg t0] at hl
          have := Option.some.inj hl
          rw [← this, e1]; exact ⟨f, b1⟩
    · rw [if_neg k] at h; cases h
theorem g_ln (hB : ∀ i, i < n → B i < 256) (hq : q ≤ n) (hc : cdT B n q ≠ 0) (g : GdG G) {G' : Gt} {q' : Nat} (h : lnL B n G q = .inl (G', q')) : GdG G' ∧ q < q' ∧ q' ≤ n := by
  unfold lnL at h
  split at h
  · exact g_hs hq hc g h
  · split at h
    · exact g_ps hq hc g h
    · split at h
      · exact g_dp hq hc g h
      · split at h
        · exact g_ru (by omega) hB hq hc g h
        · split at h
          · exact g_ru (by omega) hB hq hc g h
          · cases h
end
