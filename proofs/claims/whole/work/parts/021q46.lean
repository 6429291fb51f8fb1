/-! ===== a guess ===== -/
section
variable {M M' : Mem} {p u h n : Nat} {g : Pg} {s s' : Sg} {D : Int} {E : List Se} {v : Int32}
theorem MZu.tries' (m : MZu M g s) : ∃ M', F_X9_tries 67 M = some M' ∧ MLa M' g s s 999 ∧ WB 43 M M' := by
  obtain ⟨M1, e1, h1, w1⟩ := loop_mm (step := fun z : Int32 × Mem => F_X9_tries_s2 67 z.1 z.2) (fun i M' => (nI i, M')) (fun M' => M') 43 (fun i M' => (∀ j, j < i → mI M' 83 (43 + j) = mI M 83 j) ∧ WB 43 M M') (M := M) ⟨fun j hj => by omega, WB.rfl'⟩ (by
    rintro i M' hi ⟨h', w'⟩
    have hL := Lay.wb m.lay w'
    refine ⟨stI M' 83 (43 + i) (mI M 83 i), ?_, fun j hj => ?_, w'.st (by omega) (by omega)⟩
    · unfold F_X9_tries_s2
      dsimp only
      rw [if_neg (show ¬ (43 : Int32) ≤ nI i from nI_ge (b := 43) hi (by omega)), Lp_67_41 hL, ob_t, ob_t, La_83 hL (by omega), ob_t, show (43 : Int32) + nI i = nI (43 + i) from nI_add 43 i, Lw_83 hL (by omega), ob_t, nI_1, w'.2.2.2.2.2 i (by omega)]
    · rw [mI_steq]
      by_cases e : j = i
      · subst e; rw [upg_eq]
      · rw [upg_ne (by omega)]; exact h' j (by omega)) (by
    rintro M' ⟨h', w'⟩
    unfold F_X9_tries_s2
    dsimp only
    rw [if_pos (show (43 : Int32) ≤ nI 43 from nI_le (a := 43) (Nat.le_refl _) (by omega))])
  refine ⟨M1, ?_, ⟨m.wb w1, ?_⟩, w1⟩
  · unfold F_X9_tries
    have e1' : loop (fun z : Int32 × Mem => F_X9_tries_s2 67 z.1 z.2) ((0 : Int32), M) = some M1 := e1
    rw [e1', ob_t]
  · have g1 := m.b.gp.1
    have g2 := m.b.gp.2.1
    refine ⟨Lay.wb m.lay w1, MPl.wb m.b.2.1 w1, rfl, Nat.le_refl _, ?_, m.b.gd⟩
    obtain ⟨r1, r2, r3, r4, r5⟩ := m.b.rw
    refine ⟨by rw [← r1]; exact h1 0 (by omega), by rw [← r2]; exact h1 1 (by omega), by rw [← r3]; exact h1 2 (by omega), fun k hk => ?_, fun k hk => ?_⟩
    · rw [← (r4 k hk).1, ← (r4 k hk).2.1, ← (r4 k hk).2.2]
      refine ⟨?_, ?_, ?_⟩
      · rw [Nat.zero_add, ← h1 (3 + k) (by omega), Nat.add_assoc]
      · rw [Nat.zero_add, ← h1 (11 + k) (by omega), Nat.add_assoc]
      · rw [Nat.zero_add, ← h1 (19 + k) (by omega), Nat.add_assoc]
    · rw [← (r5 k hk).1, ← (r5 k hk).2]
      refine ⟨?_, ?_⟩
      · rw [Nat.zero_add, ← h1 (27 + k) (by omega), Nat.add_assoc]
      · rw [Nat.zero_add, ← h1 (35 + k) (by omega), Nat.add_assoc]
theorem M_guess {w : Nat} (m : MZu M g s) (hs : SeM M (mI M 67 51) 91 E) (hE : ∀ e, e ∈ E → e.1 < gH g ∧ e.2.1 ≤ 20) (hu : u < gN g) (hw : w < 60) : ∃ r, F_X9_isGuess 67 (nI (60 * u + w)) M = some r ∧ MZu r.2 g s ∧ QW M r.2 ∧ mI r.2 93 = mI M 93 ∧ ((r.1 = 1 ∧ fit g s E u (w + 1) ∧ ∀ h, h < gH g → mI r.2 92 h = sWor (passN g 5 (hsS s u (nI (w + 1)))) h) ∨ (r.1 = 0 ∧ ¬ fit g s E u (w + 1))) := by
  have g2 := m.b.gp.2.1
  have e1 : nI (60 * u + w) / (60 : Int32) = nI u := by
    rw [show nI (60 * u + w) / (60 : Int32) = nI ((60 * u + w) / 60) from nI_div (b := 60) (by omega) (by omega) (by omega), show (60 * u + w) / 60 = u by omega]
  have e2 : nI (60 * u + w) - nI (60 * u + w) / (60 : Int32) * (60 : Int32) + 1 = nI (w + 1) := by
    rw [show nI (60 * u + w) - nI (60 * u + w) / (60 : Int32) * (60 : Int32) = nI ((60 * u + w) % 60) from nI_rem (b := 60) (by omega) (by omega) (by omega), show (60 * u + w) % 60 = w by omega]; exact nI_1 w
  unfold F_X9_isGuess
  rw [e2, e1, Lp_67_41 m.lay, ob_t, m.hee hu, ob_t]
  by_cases c : sHee s u = nI (w + 1)
  · rw [if_pos c]
    exact ⟨_, rfl, m, QW.rfl', rfl, Or.inr ⟨rfl, fun z => z.1 c⟩⟩
  · obtain ⟨M1, f1, m1, w1⟩ := m.tries'
    obtain ⟨f2, m2, w2⟩ := m1.hs (u := u) (v := nI (w + 1)) hu (by unfold bnd; rw [nI_toInt (by omega)]; omega)
    obtain ⟨⟨r, M3⟩, f3, m3, w3, l3, h3⟩ := M_isSeen m2 ((hs.qw w1.qw).qw w2.qw) hE
    dsimp only at m3 w3 l3 h3
    rw [if_neg c, Lc_67 m.lay, f1, ob_t, Lp_67_41 m1.1.lay, ob_t, f2, ob_t, Lc_67 m2.1.lay, f3, bd2_t]
    refine ⟨_, rfl, m3, (w1.qw.trans w2.qw).trans w3, ?_, ?_⟩
    · dsimp only; rw [l3, w2.k9 (Or.inr rfl), w1.k9 (Or.inr rfl)]
    · rcases h3 with ⟨y1, y2, y3⟩ | ⟨y1, y2⟩
      · subst y1
        exact Or.inl ⟨rfl, ⟨c, (al_ag fun e he => (hE e he).1).mp y2⟩, y3⟩
      · subst y1
        exact Or.inr ⟨rfl, fun z => y2 ((al_ag fun e he => (hE e he).1).mpr z.2)⟩
-- both count the same
noncomputable def fiB (g : Pg) (s : Sg) (E : List Se) (i : Nat) : Bool := by classical exact decide (fit g s E (i / 60) (i % 60 + 1))
theorem fiB_i {i : Nat} : fiB g s E i = true ↔ fit g s E (i / 60) (i % 60 + 1) := by unfold fiB; simp
theorem cnt_z {f : Nat → Bool} : ∀ n, (∀ i, i < n → f i = false) → cnt f n = 0 := by
  intro n
  induction n with
  | zero => intro _; rfl
  | succ n ih =>
    intro z
    show (if f n = true then cnt f n + 1 else cnt f n) = 0
    rw [z n (by omega), if_neg (by decide)]; exact ih fun i hi => z i (by omega)
theorem fx_cnt {x : Int64} (hu : u < gN g) (h : ∀ z, (tN x).testBit z = true ↔ 1 ≤ z ∧ z ≤ 60 ∧ fit g s E u z) : cnt (fiB g s E) (60 * u) + cnt (fun i => (tN x).testBit i) 64 = cnt (fiB g s E) (60 * (u + 1)) := by
  rw [show 60 * (u + 1) = 60 * u + 60 by omega, cnt_add, show (64 : Nat) = 1 + (60 + 3) from rfl, cnt_add, cnt_add]
  have a : cnt (fun i => (tN x).testBit i) 1 = 0 := cnt_z 1 fun i hi => by
    cases e : (tN x).testBit i
    · rfl
    · have := (h i).mp e; omega
  have b : cnt (fun i => (tN x).testBit (1 + (60 + i))) 3 = 0 := cnt_z 3 fun i hi => by
    cases e : (tN x).testBit (1 + (60 + i))
    · rfl
    · have := (h _).mp e; omega
  have c : cnt (fun i => (tN x).testBit (1 + i)) 60 = cnt (fun i => fiB g s E (60 * u + i)) 60 := cnt_c 60 fun i hi => by
    have q := h (1 + i)
    have r := fiB_i (g := g) (s := s) (E := E) (i := 60 * u + i)
    rw [show (60 * u + i) / 60 = u by omega, show (60 * u + i) % 60 + 1 = 1 + i by omega] at r
    cases e : (tN x).testBit (1 + i)
    · cases e2 : fiB g s E (60 * u + i)
      · rfl
      · rw [e] at q; exact absurd (q.mpr ⟨by omega, by omega, r.mp e2⟩) (by decide)
    · exact (r.mpr (q.mp e).2.2).symm
  rw [a, b, c]
  omega
end
