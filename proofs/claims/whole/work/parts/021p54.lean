/-! ===== loops by numbers, and what both count ===== -/
def itN {α : Type} (f : Nat → α → α) (a : α) : Nat → α
  | 0 => a
  | n + 1 => f n (itN f a n)
theorem loop_p {σ ρ α : Type} {step : σ → Option (σ ⊕ ρ)} (mk : Nat → α → σ) (f : Nat → α → α) (a : α) (n : Nat) {r : ρ} (h : ∀ i, i < n → step (mk i (itN f a i)) = some (.inl (mk (i + 1) (f i (itN f a i))))) (he : step (mk n (itN f a n)) = some (.inr r)) : loop step (mk 0 a) = some r :=
  loop_run (fun i => mk i (itN f a i)) n h he
theorem loop_q {σ ρ α : Type} {step : σ → Option (σ ⊕ ρ)} (mk : Nat → α → Mem → σ) (fin : α → Mem → ρ) (f : Nat → α → α) (a : α) (n : Nat) (I : Nat → Mem → Prop) {M : Mem} (h0 : I 0 M)
    (h : ∀ i M, i < n → I i M → ∃ M', step (mk i (itN f a i) M) = some (.inl (mk (i + 1) (f i (itN f a i)) M')) ∧ I (i + 1) M')
    (he : ∀ M, I n M → step (mk n (itN f a n) M) = some (.inr (fin (itN f a n) M))) : ∃ M', loop step (mk 0 a M) = some (fin (itN f a n) M') ∧ I n M' :=
  loop_mm (fun i M => mk i (itN f a i) M) (fun M => fin (itN f a n) M) n I h0 h he
/-- a search: the first at which it is so, else n -/
noncomputable def fsN (P : Nat → Prop) : Nat → Nat → Nat
  | 0, i => i
  | n + 1, i => by classical exact if P i then i else fsN P n (i + 1)
theorem fsN_y {P : Nat → Prop} {n i : Nat} (h : P i) : fsN P (n + 1) i = i := by rw [fsN.eq_2]; exact if_pos h
theorem fsN_n {P : Nat → Prop} {n i : Nat} (h : ¬ P i) : fsN P (n + 1) i = fsN P n (i + 1) := by rw [fsN.eq_2]; exact if_neg h
theorem loop_f {σ ρ : Type} {step : σ → Option (σ ⊕ ρ)} (mk : Nat → Mem → σ) (no : Mem → ρ) (yes : Nat → Mem → ρ) (P : Nat → Prop) (I : Nat → Mem → Prop) (J : Mem → Prop) (hi : Nat)
    (h : ∀ i M, i < hi → I i M → (P i ∧ ∃ M', step (mk i M) = some (.inr (yes i M')) ∧ J M') ∨ (¬ P i ∧ ∃ M', step (mk i M) = some (.inl (mk (i + 1) M')) ∧ I (i + 1) M'))
    (he : ∀ M, I hi M → step (mk hi M) = some (.inr (no M)) ∧ J M) :
    ∀ n i M, i + n = hi → I i M → ∃ M', (if fsN P n i < hi then loop step (mk i M) = some (yes (fsN P n i) M') else loop step (mk i M) = some (no M')) ∧ J M' := by
  intro n
  induction n with
  | zero =>
    intro i M e hI
    have : i = hi := by omega
    subst this
    obtain ⟨e1, e2⟩ := he M hI
    refine ⟨M, ?_, e2⟩
    rw [if_neg (by show ¬ i < i; omega)]
    exact loop_end e1
  | succ n ih =>
    intro i M e hI
    rcases h i M (by omega) hI with ⟨hP, M', e1, hJ⟩ | ⟨hP, M', e1, hI'⟩
    · refine ⟨M', ?_, hJ⟩
      have : fsN P (n + 1) i = i := fsN_y hP
      rw [this, if_pos (by omega)]
      exact loop_end e1
    · have : fsN P (n + 1) i = fsN P n (i + 1) := fsN_n hP
      rw [this, loop_turn e1]
      exact ih (i + 1) M' (by omega) hI'
theorem loop_fr {σ ρ τ : Type} {step : σ → Option (σ ⊕ ρ)} (mk : Nat → Mem → σ) (no : Mem → ρ) (yes : Nat → Mem → ρ) (k : ρ → Option τ) (r : Int32 → Mem → τ) (P : Nat → Prop) (I : Nat → Mem → Prop) (J : Mem → Prop) (lo hi : Nat) (hlh : lo ≤ hi) {M : Mem} (h0 : I lo M)
    (h : ∀ i M, lo ≤ i → i < hi → I i M → (P i ∧ ∃ M', step (mk i M) = some (.inr (yes i M')) ∧ J M') ∨ (¬ P i ∧ ∃ M', step (mk i M) = some (.inl (mk (i + 1) M')) ∧ I (i + 1) M'))
    (he : ∀ M, I hi M → step (mk hi M) = some (.inr (no M)) ∧ J M) (hy : ∀ i M, k (yes i M) = some (r (nI i) M)) (hn : ∀ M, k (no M) = some (r (-1) M)) : ∃ M', (loop step (mk lo M)).bind k = some (r (if fsN P (hi - lo) lo < hi then nI (fsN P (hi - lo) lo) else -1) M') ∧ J M' := by
  obtain ⟨M', e, hJ⟩ := loop_f (step := step) mk no yes P (fun i M => lo ≤ i ∧ I i M) J hi (fun i M h1 h2 => by
    rcases h i M h2.1 h1 h2.2 with z | ⟨z, M', e, h3⟩
    · exact Or.inl z
    · exact Or.inr ⟨z, M', e, by omega, h3⟩) (fun M h => he M h.2) (hi - lo) lo M (by omega) ⟨Nat.le_refl _, h0⟩
  refine ⟨M', ?_, hJ⟩
  split at e
  · rename_i z; rw [e, ob_t, hy, if_pos z]
  · rename_i z; rw [e, ob_t, hn, if_neg z]
theorem ifn1 {α : Type} {a b : α} : (if (1 : Int32) = 0 then a else b) = b := if_neg (by decide)
theorem ifz {α : Type} {a b : α} : (if (0 : Int32) = 0 then a else b) = a := if_pos rfl
theorem or0 {a : Int32} : a ||| 0 = a := Int32.or_zero
theorem u2_t {a b z : Type} {x : a} {y : b} {f : a → b → z} : u2 (x, y) f = f x y := rfl
theorem u3_t {a b c z : Type} {x : a} {y : b} {w : c} {f : a → b → c → z} : u3 (x, y, w) f = f x y w := rfl
theorem u4_t {a b c d z : Type} {x : a} {y : b} {w : c} {v : d} {f : a → b → c → d → z} : u4 (x, y, w, v) f = f x y w v := rfl
theorem el_l {α β γ : Type} {f : α → γ} {g : β → γ} {a : α} : Sum.elim f g (.inl a) = f a := rfl
theorem el_r {α β γ : Type} {f : α → γ} {g : β → γ} {b : β} : Sum.elim f g (.inr b) = g b := rfl
def lodS (g : Pg) (s : Sg) : Int32 := itN (fun q a => if wheS g s q = -1 then a ||| one q else a) 0 (gN g)
def sorS (g : Pg) (s : Sg) : Int32 := itN (fun q a => a + sSor s q) 0 (gN g)
section
variable {M M' : Mem} {p u h n a b : Nat} {g : Pg} {s s' : Sg} {D : Int} {B : Int32}
theorem StV.sz (hs : StV M a g s) (hg : GdP g) (hh : h < gH g) : aI M 100 (a + 1) (nI h) = some (sSiz s h) := by rw [aI_t hs.1.2.1.1 (hg.h8 hh) (by omega), (hs.2.2.2.2.1 h hh).1]
theorem StV.wr' (hs : StV M a g s) (hg : GdP g) (hh : h < gH g) : aI M 100 (a + 2) (nI h) = some (sWor s h) := by rw [aI_t hs.1.2.2.1.1 (hg.h8 hh) (by omega), (hs.2.2.2.2.1 h hh).2.1]
theorem StV.wo (hs : StV M a g s) (hg : GdP g) (hh : h < gH g) : aI M 100 (a + 3) (nI h) = some (sWho s h) := by rw [aI_t hs.1.2.2.2.1.1 (hg.h8 hh) (by omega), (hs.2.2.2.2.1 h hh).2.2]
theorem StV.he (hs : StV M a g s) (hg : GdP g) (hu : u < gN g) : aI M 100 (a + 4) (nI u) = some (sHee s u) := by rw [aI_t hs.1.2.2.2.2.1.1 (hg.p8 hu) (by omega), (hs.2.2.2.2.2 u hu).1]
theorem StV.we (hs : StV M a g s) (hg : GdP g) (hu : u < gN g) : aI M 100 (a + 5) (nI u) = some (wheS g s u) := by rw [aI_t hs.1.2.2.2.2.2.1.1 (hg.p8 hu) (by omega), (hs.2.2.2.2.2 u hu).2.1]
theorem StV.so (hs : StV M a g s) (hg : GdP g) (hu : u < gN g) : aI M 100 (a + 6) (nI u) = some (sSor s u) := by rw [aI_t hs.1.2.2.2.2.2.2.1 (hg.p8 hu) (by omega), (hs.2.2.2.2.2 u hu).2.2]
theorem CQ.lod (c : CQ M p g s) (hs : StV M a g s') : F_X8_lodgers 0 a M = some (lodS g s') := by
  have g2 := c.gp.2.1
  unfold F_X8_lodgers
  have e := loop_p (step := fun z : Int32 × Int32 => F_X8_lodgers_s4 0 a M z.1 z.2) (fun i x => (x, nI i)) (fun q x => if wheS g s' q = -1 then x ||| one q else x) 0 (gN g) (r := lodS g s') (by
    intro i hi
    unfold F_X8_lodgers_s4
    simp only [c.pp, ob_t, c.nN, if_neg (nI_ge hi (show gN g < 2 ^ 31 by omega)), gP_t hs.1.1 hs.1.2.2.2.2.2.1.2, hs.we c.gp hi, nm_t, nI_1]
    split <;> rfl) (by
    unfold F_X8_lodgers_s4
    simp only [c.pp, ob_t, c.nN, if_pos (nI_le (Nat.le_refl (gN g)) (show gN g < 2 ^ 31 by omega))]
    rfl)
  rw [show ((0 : Int32), (0 : Int32)) = ((0 : Int32), nI 0) from rfl, e, ob_t]
theorem CQ.sors (c : CQ M p g s) (hs : StV M a g s') : F_X8_allBlisters 0 a M = some (sorS g s') := by
  have g2 := c.gp.2.1
  unfold F_X8_allBlisters
  have e := loop_p (step := fun z : Int32 × Int32 => F_X8_allBlisters_s4 0 a M z.1 z.2) (fun i x => (x, nI i)) (fun q x => x + sSor s' q) 0 (gN g) (r := sorS g s') (by
    intro i hi
    unfold F_X8_allBlisters_s4
    simp only [c.pp, ob_t, c.nN, if_neg (nI_ge hi (show gN g < 2 ^ 31 by omega)), gP_t hs.1.1 hs.1.2.2.2.2.2.2.2, hs.so c.gp hi, nI_1]) (by
    unfold F_X8_allBlisters_s4
    simp only [c.pp, ob_t, c.nN, if_pos (nI_le (Nat.le_refl (gN g)) (show gN g < 2 ^ 31 by omega))]
    rfl)
  rw [show ((0 : Int32), (0 : Int32)) = ((0 : Int32), nI 0) from rfl, e, ob_t]
theorem MB.hof (m : MB M B b g s D) {x : Int32} (hx : x = nI u) : F_X9_houseOf 67 B x M = some (wheS g s u) := by
  subst hx
  have g1 := m.gp.1
  unfold F_X9_houseOf wheS
  have key : ∀ n i, i + n = gH g → (∀ k, k < i → sWho s k ≠ nI u) → (loop (fun z => F_X9_houseOf_s2 67 B (nI u) M z) (nI i)).bind (Sum.elim (fun _ => some (-1 : Int32)) (fun f12 => some f12)) = some (hOf (sWho s) u (gH g)) := by
    intro n
    induction n with
    | zero =>
      intro i hi hn
      have : i = gH g := by omega
      subst this
      rw [loop_end (r := Sum.inl ()) (by unfold F_X9_houseOf_s2; rw [m.nH, ob_t, if_pos (nI_le (Nat.le_refl _) (by omega))]), hOf_none hn]
      rfl
    | succ n ih =>
      intro i hi hn
      by_cases e : sWho s i = nI u
      · rw [loop_end (r := Sum.inr (nI i)) (by unfold F_X9_houseOf_s2; rw [m.nH, ob_t, if_neg (nI_ge (show i < gH g by omega) (by omega)), Lp_67_41 m.1, ob_t, m.who (by omega), ob_t, if_pos e]), ob_t]
        show some (nI i) = _
        congr 1
        rcases hOf_cases (w := sWho s) (p := u) (n := gH g) with ⟨h1, h2⟩ | ⟨k, h1, h2, h3⟩
        · exact absurd e (h2 i (by omega))
        · have hk : ¬ k < i := fun z => hn k z h3
          by_cases e2 : k = i
          · rw [h2, e2]
          · -- the least one
            have : ∀ n, i < n → hOf (sWho s) u n = nI i := by
              intro n
              induction n with
              | zero => omega
              | succ n ih2 =>
                intro hn2
                unfold hOf
                by_cases e3 : i = n
                · subst e3
                  rw [hOf_none hn]
                  simp [e]
                · rw [ih2 (by omega), if_pos (nI_nm1 (by omega))]
            exact (this _ (by omega)).symm
      · rw [loop_turn (s' := nI (i + 1)) (by unfold F_X9_houseOf_s2; rw [m.nH, ob_t, if_neg (nI_ge (show i < gH g by omega) (by omega)), Lp_67_41 m.1, ob_t, m.who (by omega), ob_t, if_neg e, nI_1])]
        refine ih (i + 1) (by omega) fun k hk => ?_
        by_cases e2 : k = i
        · subst e2; exact e
        · exact hn k (by omega)
  exact key (gH g) 0 (by omega) (fun k hk => by omega)
theorem MB.lod (m : MB M B b g s D) : F_X9_lodgersIn 67 B M = some (lodS g s) := by
  have g2 := m.gp.2.1
  unfold F_X9_lodgersIn
  have e := loop_p (step := fun z : Int32 × Int32 => F_X9_lodgersIn_s4 67 B M z.1 z.2) (fun i x => (x, nI i)) (fun q x => if wheS g s q = -1 then x ||| one q else x) 0 (gN g) (r := lodS g s) (by
    intro i hi
    unfold F_X9_lodgersIn_s4
    simp only [ob_t, m.nN, if_neg (nI_ge hi (show gN g < 2 ^ 31 by omega)), Lc_67 m.1, m.hof (u := i) rfl, nm_t, nI_1, or0]
    split <;> rfl) (by
    unfold F_X9_lodgersIn_s4
    simp only [ob_t, m.nN, if_pos (nI_le (Nat.le_refl (gN g)) (show gN g < 2 ^ 31 by omega))]
    rfl)
  rw [show ((0 : Int32), (0 : Int32)) = ((0 : Int32), nI 0) from rfl, e, ob_t]
theorem MB.sors (m : MB M B b g s D) : F_X9_soreIn 67 B M = some (sorS g s) := by
  have g2 := m.gp.2.1
  unfold F_X9_soreIn
  have e := loop_p (step := fun z : Int32 × Int32 => F_X9_soreIn_s4 67 B M z.1 z.2) (fun i x => (x, nI i)) (fun q x => x + sSor s q) 0 (gN g) (r := sorS g s) (by
    intro i hi
    unfold F_X9_soreIn_s4
    simp only [ob_t, m.nN, if_neg (nI_ge hi (show gN g < 2 ^ 31 by omega)), Lp_67_41 m.1, m.sor hi, nI_1]) (by
    unfold F_X9_soreIn_s4
    simp only [ob_t, m.nN, if_pos (nI_le (Nat.le_refl (gN g)) (show gN g < 2 ^ 31 by omega))]
    rfl)
  rw [show ((0 : Int32), (0 : Int32)) = ((0 : Int32), nI 0) from rfl, e, ob_t]
theorem whe_case (hg : GdP g) (hd : GdS D g s) : (wheS g s u = -1 ∧ ∀ k, k < gH g → sWho s k ≠ nI u) ∨ ∃ k, k < gH g ∧ wheS g s u = nI k ∧ sWho s k = nI u := hOf_cases
def tnS (g : Pg) (s : Sg) (u : Nat) : Int32 := if wheS g s u = -1 then 0 else tightS s u (wheS g s u).toNatClampNeg
theorem CQ.tn (c : CQ M p g s) (hu : u < gN g) : F_X8_tightNow 0 (nI u) M = some (tnS g s u) := by
  have g1 := c.gp.1
  unfold F_X8_tightNow tnS
  simp only [Lp_0_4 c.1, ob_t, Lp_24_7 c.1, c.whe hu, Lc_24 c.1]
  rcases whe_case (u := u) c.gp c.gd with ⟨e, -⟩ | ⟨k, hk, e, -⟩
  · rw [e, if_pos rfl, if_pos rfl]
  · rw [e, if_neg (nI_nm1 (by omega)), if_neg (nI_nm1 (by omega)), nI_clamp (by omega), c.tig hu hk, ob_t]
theorem MZu.tn (m : MZu M g s) (hu : u < gN g) {x : Int32} (hx : x = nI u) : F_X9_tightNow 67 x M = some (tnS g s u) := by
  have g1 := m.b.gp.1
  unfold F_X9_tightNow tnS
  rw [Lc_67 m.lay, m.b.hof (u := u) hx, ob_t]
  rcases whe_case (u := u) m.b.gp m.b.gd with ⟨e, -⟩ | ⟨k, hk, e, -⟩
  · rw [e, if_pos rfl, if_pos rfl]
  · rw [e, if_neg (nI_nm1 (by omega)), if_neg (nI_nm1 (by omega)), nI_clamp (by omega), Lc_67 m.lay, hx, m.b.tig hu hk, ob_t]
theorem MZu.go (m : MZu M g s) (hu : u < gN g) (hh : h < gH g) : ∃ M', F_X9_wouldGo 67 0 (nI u) (nI h) M = some (goI g s u h (dampS g s), M') ∧ MZu M' g s ∧ QW M M' := by
  obtain ⟨M', e, w⟩ := m.b.go hu hh (Or.inl m.1.2)
  have eo : dmp (mI M 67 46) g s = dampS g s := by unfold dmp; rw [if_pos m.1.2]
  rw [eo] at e
  exact ⟨M', e, m.wr w (by decide)⟩
theorem MZu.eas (m : MZu M g s) (hu : u < gN g) (hh : h < gH g) : ∃ M', F_X9_easesOf 67 0 (nI u) (nI h) M = some (easeS g s u h (dampS g s), M') ∧ MZu M' g s ∧ QW M M' := by
  obtain ⟨M', e, w⟩ := m.b.eas hu hh (Or.inl m.1.2)
  have eo : dmp (mI M 67 46) g s = dampS g s := by unfold dmp; rw [if_pos m.1.2]
  rw [eo] at e
  exact ⟨M', e, m.wr w (by decide)⟩
theorem MLa.wr {L : List Nat} (m : MLa M g s s' D) (w : Wr L M M') (h1 : ∀ k ∈ L, k = 85 ∨ k = 86) : MLa M' g s s' D ∧ QW M M' := by
  have hL : ∀ k ∈ L, k ∈ ScL := fun k hk => by rcases h1 k hk with e | e <;> subst e <;> decide
  exact ⟨⟨(m.1.wr w hL).1, m.2.wr w h1⟩, w.q hL⟩
theorem MLa.go (m : MLa M g s s' D) (hu : u < gN g) (hh : h < gH g) : ∃ M', F_X9_wouldGo 67 43 (nI u) (nI h) M = some (goI g s' u h (dampS g s'), M') ∧ MLa M' g s s' D ∧ QW M M' := by
  obtain ⟨M', e, w⟩ := m.2.go hu hh (Or.inl m.1.1.2)
  have eo : dmp (mI M 67 46) g s' = dampS g s' := by unfold dmp; rw [if_pos m.1.1.2]
  rw [eo] at e
  exact ⟨M', e, m.wr w (by decide)⟩
theorem MLa.eas (m : MLa M g s s' D) (hu : u < gN g) (hh : h < gH g) : ∃ M', F_X9_easesOf 67 43 (nI u) (nI h) M = some (easeS g s' u h (dampS g s'), M') ∧ MLa M' g s s' D ∧ QW M M' := by
  obtain ⟨M', e, w⟩ := m.2.eas hu hh (Or.inl m.1.1.2)
  have eo : dmp (mI M 67 46) g s' = dampS g s' := by unfold dmp; rw [if_pos m.1.1.2]
  rw [eo] at e
  exact ⟨M', e, m.wr w (by decide)⟩
theorem CLa.go (c : CLa M p g s s' D) (hu : u < gN g) (hh : h < gH g) {d : Int32} : ∃ M', F_X2_enters p 31 (nI u) (nI h) d M = some (goI g s' u h d, M') ∧ CLa M' p g s s' D ∧ QC M M' := by
  obtain ⟨M', v, e, hv, w⟩ := F_enters (d := d) c.1.pl c.2.1 (by have := c.1.2.1; omega) (by unfold NC; omega) hu hh
  have wc : QC M M' := w.c fun k hk => WP2c c.1.2.1 hk
  have := goI_or hv
  subst this
  exact ⟨M', e, ⟨c.1.c wc, c.2.1.wr w (fun k hk => by have := c.1.2.1; simp at hk; omega), c.2.2⟩, wc⟩
theorem CLa.eas (c : CLa M p g s s' D) (hu : u < gN g) (hh : h < gH g) {d : Int32} : ∃ M', F_X2_easing p 31 (nI u) (nI h) d M = some (easeS g s' u h d, M') ∧ CLa M' p g s s' D ∧ QC M M' := by
  obtain ⟨M', e, w⟩ := F_easing (d := d) c.1.pl c.2.1 (by have := c.1.2.1; omega) (by unfold NC; omega) hu hh
  have wc : QC M M' := w.c fun k hk => WP2c c.1.2.1 hk
  exact ⟨M', e, ⟨c.1.c wc, c.2.1.wr w (fun k hk => by have := c.1.2.1; simp at hk; omega), c.2.2⟩, wc⟩
theorem CQ.eas (c : CQ M p g s) (hu : u < gN g) (hh : h < gH g) {d : Int32} : ∃ M', F_X2_easing p 24 (nI u) (nI h) d M = some (easeS g s u h d, M') ∧ QC M M' := by
  obtain ⟨M', e, w⟩ := F_easing (d := d) c.pl c.st (by have := c.2.1; omega) (by unfold NC; omega) hu hh
  exact ⟨M', e, w.c fun k hk => WP2c c.2.1 hk⟩
-- rows of the reference, read without a base
theorem MZu.siz (m : MZu M g s) (hh : h < gH g) : aI M 100 83 (3 + nI h) = some (sSiz s h) := m.b.siz hh
theorem MZu.wor (m : MZu M g s) (hh : h < gH g) : aI M 100 83 (11 + nI h) = some (sWor s h) := m.b.wor hh
theorem MZu.who (m : MZu M g s) (hh : h < gH g) : aI M 100 83 (19 + nI h) = some (sWho s h) := m.b.who hh
theorem MZu.hee (m : MZu M g s) (hu : u < gN g) : aI M 100 83 (27 + nI u) = some (sHee s u) := m.b.hee hu
theorem MZu.sor (m : MZu M g s) (hu : u < gN g) : aI M 100 83 (35 + nI u) = some (sSor s u) := m.b.sor hu
theorem MZu.day (m : MZu M g s) : aI M 100 83 0 = some (sDay s) := m.b.day
theorem MZu.bur (m : MZu M g s) : aI M 100 83 1 = some (sBur s) := m.b.bur
theorem MZu.wet (m : MZu M g s) : aI M 100 83 2 = some (sWet s) := m.b.wet
theorem MLa.siz (m : MLa M g s s' D) (hh : h < gH g) : aI M 100 83 (46 + nI h) = some (sSiz s' h) := m.2.siz hh
theorem MLa.wor (m : MLa M g s s' D) (hh : h < gH g) : aI M 100 83 (54 + nI h) = some (sWor s' h) := m.2.wor hh
theorem MLa.who (m : MLa M g s s' D) (hh : h < gH g) : aI M 100 83 (62 + nI h) = some (sWho s' h) := m.2.who hh
theorem MLa.hee (m : MLa M g s s' D) (hu : u < gN g) : aI M 100 83 (70 + nI u) = some (sHee s' u) := m.2.hee hu
theorem MLa.sor (m : MLa M g s s' D) (hu : u < gN g) : aI M 100 83 (78 + nI u) = some (sSor s' u) := m.2.sor hu
theorem MLa.bur (m : MLa M g s s' D) : aI M 100 83 44 = some (sBur s') := m.2.bur
-- the class's rows of later
theorem CLa.pw (c : CLa M p g s s' D) : gP M 6 31 4 = some 33 := Lp_31_4 c.1.1
theorem CLa.siz (c : CLa M p g s s' D) (hh : h < gH g) : aI M 100 32 (nI h) = some (sSiz s' h) := c.2.1.sz c.1.gp hh
theorem CLa.wor (c : CLa M p g s s' D) (hh : h < gH g) : aI M 100 33 (nI h) = some (sWor s' h) := c.2.1.wr' c.1.gp hh
theorem CLa.who (c : CLa M p g s s' D) (hh : h < gH g) : aI M 100 34 (nI h) = some (sWho s' h) := c.2.1.wo c.1.gp hh
theorem CLa.hee (c : CLa M p g s s' D) (hu : u < gN g) : aI M 100 35 (nI u) = some (sHee s' u) := c.2.1.he c.1.gp hu
theorem CLa.whe (c : CLa M p g s s' D) (hu : u < gN g) : aI M 100 36 (nI u) = some (wheS g s' u) := c.2.1.we c.1.gp hu
theorem CLa.sor (c : CLa M p g s s' D) (hu : u < gN g) : aI M 100 37 (nI u) = some (sSor s' u) := c.2.1.so c.1.gp hu
theorem CLa.bur (c : CLa M p g s s' D) : gI M 6 31 2 = some (sBur s') := by rw [gI_t c.2.1.1.1, c.2.1.2.2.2.1]
theorem CLa.day (c : CLa M p g s s' D) : gI M 6 31 0 = some (sDay s') := by rw [gI_t c.2.1.1.1, c.2.1.2.1]
theorem CQ.day (c : CQ M p g s) : gI M 6 24 0 = some (sDay s) := by rw [gI_t c.st.1.1, c.st.2.1]
theorem CQ.wet (c : CQ M p g s) : gI M 6 24 1 = some (sWet s) := by rw [gI_t c.st.1.1, c.st.2.2.1]
theorem CQ.bur (c : CQ M p g s) : gI M 6 24 2 = some (sBur s) := by rw [gI_t c.st.1.1, c.st.2.2.2.1]
theorem CQ.isB (c : CQ M p g s) (hh : h < 31) : F_X6_isBurst 24 (nI h) M = some (if bitI (sBur s) h then 1 else 0) := F_isBurst c.st hh
theorem CLa.isB (c : CLa M p g s s' D) (hh : h < 31) : F_X6_isBurst 31 (nI h) M = some (if bitI (sBur s') h then 1 else 0) := F_isBurst c.2.1 hh
theorem CLa.pass1 (c : CLa M p g s s' D) (hD : D < 50000) : ∃ M', F_X8_pass 0 31 1 M = some M' ∧ CLa M' p g s (passS g s') (D + 1) ∧ QC M M' := c.passn (n := 1) (by omega) hD
end
