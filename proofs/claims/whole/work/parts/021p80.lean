/-! ===== the class: acts ===== -/
section
variable {M M' : Mem} {p m : Nat} {g : Pg} {s s' : Sg} {L L' : List Sg} {E E' : List Se} {I I' : Option (Sg × List Sg × List Se)} {R R' : Nat → Int32} {T T' : List Nat} {f f' : Int32} {D : List Nat}
abbrev KD (D : List Nat) (M M' : Mem) : Prop := Kp (fun k _ => k ∈ D) Y0 M M'
theorem CI.rX (h : CI M p g s L E I R T f) (hD : ∀ k ∈ D, k < 98) : ∀ r, (r = 39 ∨ r = 52) → ∀ j b, j < 40 → mP M r j = some b → ∀ k, k < 7 → ∀ i : Nat, ¬ (fun k (_ : Nat) => k ∈ D) (b + k) i := fun r hr j b hj hb k hk i z => by
  have := (h.2.2.2.2.2.2.2.1.1 r hr j b hj hb).1
  have := hD _ z
  unfold NC at *
  omega
theorem CI.L_kp (h : CI M p g s L E I R T f) (w : KD D M M') (hD : ∀ k ∈ D, k < 98) (h2 : 38 ∉ D) : AcV M' 38 39 g L ∧ ∀ t ∈ L, GdS 999 g t := by
  have := h.1.len
  exact ⟨h.2.2.2.2.2.2.2.2.1.kp w (by omega) (by omega) (fun _ => h2) (fun _ z => z) (h.rX hD 39 (Or.inl rfl)) (fun _ _ _ _ _ z => z), h.2.2.2.2.2.2.2.2.2.1⟩
theorem CI.E_kp (h : CI M p g s L E I R T f) (w : KD D M M') (h2 : 40 ∉ D ∧ 41 ∉ D ∧ 42 ∉ D ∧ 43 ∉ D) : SeV M' 40 g E := by
  have := h.1.len
  refine h.2.2.2.2.2.2.2.2.2.2.1.kp w (by omega) fun j hj i => ?_
  have : j = 0 ∨ j = 1 ∨ j = 2 ∨ j = 3 := by omega
  rcases this with rfl | rfl | rfl | rfl
  · exact h2.1
  · exact h2.2.1
  · exact h2.2.2.1
  · exact h2.2.2.2
theorem CI.I_kp (h : CI M p g s L E I R T f) (w : KD D M M') (hD : ∀ k ∈ D, k < 98) (h0 : 0 ∉ D) (h2 : ∀ k, 44 ≤ k → k < 57 → k ∉ D) : ImV M' g I := by
  have hl := h.1.len
  have h12 := h.2.2.2.2.2.2.2.2.2.2.2.1
  have e0 : mI M' 0 = mI M 0 := w.rw (by omega) (fun _ => h0)
  cases I with
  | none => show mI M' 0 8 = 0; rw [e0]; exact h12
  | some x =>
    obtain ⟨s', L', E'⟩ := x
    obtain ⟨z1, z2, z3, z4, z5, z6⟩ := h12
    exact ⟨by rw [e0]; exact z1, z2.kp w (fun j hj i => h2 _ (by omega) (by omega)) (fun _ z => z), z3, z4.kp w (by omega) (by omega) (fun _ => h2 51 (by omega) (by omega)) (fun _ z => z) (h.rX hD 52 (Or.inr rfl)) (fun _ _ _ _ _ z => z), z5, z6.kp w (by omega) (fun j hj i => h2 _ (by omega) (by omega))⟩
theorem CI.R_kp (h : CI M p g s L E I R T f) (w : KD D M M') (h2 : 57 ∉ D) : ∀ i, i < 3 → mI M' 57 i = R i := fun i hi => by
  have := h.1.len
  rw [w.rw (by omega) (fun _ => h2)]; exact h.2.2.2.2.2.2.2.2.2.2.2.2.1 i hi
theorem CI.T_kp (h : CI M p g s L E I R T f) (w : KD D M M') (h2 : 1 ∉ D ∧ 2 ∉ D) : TaV M' T := by
  have := h.1.len
  unfold TaV
  rw [w.rw (k := 1) (by omega) (fun _ => h2.1), w.rw (k := 2) (by omega) (fun _ => h2.2)]
  exact h.2.2.2.2.2.2.2.2.2.2.2.2.2.1
theorem CI.f_kp (h : CI M p g s L E I R T f) (w : KD D M M') (h2 : 0 ∉ D) : mI M' 0 1 = f := by
  have := h.1.len
  rw [w.rw (k := 0) (by omega) (fun _ => h2)]; exact h.2.2.2.2.2.2.2.2.2.2.2.2.2.2
theorem CI.s_kp (h : CI M p g s L E I R T f) (w : KD D M M') (h2 : ∀ k, 24 ≤ k → k < 31 → k ∉ D) : StV M' 24 g s ∧ GdS 999 g s := ⟨h.2.2.2.2.2.1.kp w (fun j hj i => h2 _ (by omega) (by omega)) (fun _ z => z), h.2.2.2.2.2.2.1⟩
theorem CI.p14 (h : CI M p g s L E I R T f) : p = 4 ∨ p = 14 := by rcases h.2.1 with z | z; exact Or.inl z.1; exact Or.inr z.1
theorem CI.re (h : CI M p g s L E I R T f) (w : KD D M M') (hD : ∀ k ∈ D, k < 98) (hp : ∀ k ∈ D, ¬ (4 ≤ k ∧ k < 12) ∧ ¬ (14 ≤ k ∧ k < 22)) (hs : StV M' 24 g s' ∧ GdS 999 g s') (hL : AcV M' 38 39 g L' ∧ ∀ t ∈ L', GdS 999 g t) (hE : SeV M' 40 g E') (hI : ImV M' g I') (hR : ∀ i, i < 3 → mI M' 57 i = R' i) (hT : TaV M' T') (hf : mI M' 0 1 = f') : CI M' p g s' L' E' I' R' T' f' := by
  have hl := h.1.len
  have pl := h.2.2.2.1.kp h.2.2.2.2.1 w (fun j hj i z => by have a := hp _ z; have b := h.p14; omega) (fun _ z => z) (fun k n i hk _ _ z => by have := hD _ z; unfold NC at hk; omega) (fun _ _ _ _ z => z)
  refine ⟨h.1.kp w (fun _ _ z => z), ?_, w.pt (by omega) (fun z => z) h.2.2.1, pl.1, pl.2, hs.1, hs.2, h.2.2.2.2.2.2.2.1.kp w hl (fun _ => ⟨fun z => z, fun z => z⟩) (fun _ _ _ z => z), hL.1, hL.2, hE, hI, hR, hT, hf⟩
  rcases h.2.1 with z | z
  · exact Or.inl ⟨z.1, w.pt (by omega) (fun z => z) z.2⟩
  · exact Or.inr ⟨z.1, w.pt (by omega) (fun z => z) z.2⟩
/-- only what is now has changed -/
theorem CI.now (h : CI M p g s L E I R T f) {W : List Nat} (w : Wr W M M') (hW : ∀ k ∈ W, (24 ≤ k ∧ k < 31) ∨ k = 12 ∨ k = 13 ∨ k = 22 ∨ k = 23) (hs : StV M' 24 g s') (hg : GdS 999 g s') : CI M' p g s' L E I R T f :=
  h.re w.kp (fun k hk => by have := hW k hk; omega) (fun k hk => by have := hW k hk; omega) ⟨hs, hg⟩ (h.L_kp w.kp (fun k hk => by have := hW k hk; omega) (fun z => by have := hW _ z; omega)) (h.E_kp w.kp ⟨fun z => by have := hW _ z; omega, fun z => by have := hW _ z; omega, fun z => by have := hW _ z; omega, fun z => by have := hW _ z; omega⟩) (h.I_kp w.kp (fun k hk => by have := hW k hk; omega) (fun z => by have := hW _ z; omega) (fun k h1 h2 z => by have := hW _ z; omega)) (h.R_kp w.kp (fun z => by have := hW _ z; omega)) (h.T_kp w.kp ⟨fun z => by have := hW _ z; omega, fun z => by have := hW _ z; omega⟩) (h.f_kp w.kp (fun z => by have := hW _ z; omega))
/-- a row, made where it is wanting -/
theorem C_row {o r j : Nat} (hL : Lay M) (ho : (o = 38 ∧ r = 39) ∨ (o = 51 ∧ r = 52)) (hA : AcR M) (hj : j < 40) (h1 : M.1.length + 7 ≤ CLM) (h2 : mS M + 57 ≤ SLM) : ∃ a M', F_X0_row o (nI j) M = some (a, M') ∧ NC ≤ a ∧ StO M' a ∧ mP M' r j = some a ∧ Kp (fun _ _ => False) (fun k i => k = r ∧ i = j) M M' ∧ AcR M' ∧ M'.1.length ≤ M.1.length + 7 ∧ mS M' ≤ mS M + 57 ∧ ((∃ b, mP M r j = some b) → M' = M) := by
  have hr : r = 39 ∨ r = 52 := by omega
  have hlen := hL.len
  have to : M.1[o]? = some (0, 0) := by rcases ho with ⟨rfl, -⟩ | ⟨rfl, -⟩; exact hL.t rfl; exact hL.t rfl
  have tr : M.1[r]? = some (104, 40) := by rcases hr with rfl | rfl; exact hL.t rfl; exact hL.t rfl
  have po : mP M o 0 = some r := by rcases ho with ⟨rfl, rfl⟩ | ⟨rfl, rfl⟩; exact hL.p (by decide); exact hL.p (by decide)
  unfold F_X0_row
  rw [gP_t to po, ob_t, aQ_t tr hj (by omega)]
  cases hq : mP M r j with
  | some a =>
    obtain ⟨z1, z2⟩ := hA.1 r hr j a hj hq
    rw [bdQ_s]
    exact ⟨a, M, rfl, z1, z2, hq, Kp.refl, hA, by omega, by omega, fun _ => rfl⟩
  | none =>
    rw [bdQ_n, nO_t (by omega) (by omega), ob_t]
    obtain ⟨M8, e8, s8, x8, -⟩ := F_st_init (M := nwM M (6, 0) 9) (a := M.1.length) tg_nw' len_nw (by omega) (by rw [mS_nw]; omega)
    have x1 : Ext M (nwM M (6, 0) 9) M.1.length [(6, 0)] 9 := ⟨rfl, rfl, fun k hk => ⟨mI_nw hk, mP_nw hk, mL_nw hk⟩⟩
    have x := x1.trans x8 (Nat.le_refl _)
    have t8 := x.tg tr
    rw [e8, ob_t, gP_t (x.tg to) (by rw [(x.2.2 o (ltT to)).2.1]; exact po), ob_t, sP_t t8 hj (by omega) s8.1, ob_t]
    have kp : Kp (fun _ _ => False) (fun k i => k = r ∧ i = j) M (stP M8 r j (some M.1.length)) := by
      refine ⟨by show M.1.length ≤ M8.1.length; rw [x.1]; simp, fun k hk => ?_, fun k i hk _ => ?_, fun k i hk hn => ?_⟩
      · show M8.1[k]? = _; rw [x.1, List.getElem?_append_left hk]
      · rw [mI_stP, (x.2.2 k hk).1]
      · rw [mP_stP, if_neg hn, (x.2.2 k hk).2.1]
    have sO : StO (stP M8 r j (some M.1.length)) M.1.length := by
      have hne : ∀ i, mP (stP M8 r j (some M.1.length)) M.1.length i = mP M8 M.1.length i := fun i => by rw [mP_stP, if_neg (by omega)]
      unfold StO
      rw [hne, hne, hne, hne, hne, hne]
      exact s8
    have own : ∀ r' j', (r' = 39 ∨ r' = 52) → j' < 40 → mP (stP M8 r j (some M.1.length)) r' j' = if r' = r ∧ j' = j then some M.1.length else mP M r' j' := by
      intro r' j' h1 h2
      rw [mP_stP]
      split
      · rfl
      · rw [(x.2.2 r' (by omega)).2.1]
    have low : ∀ r' j' b, (r' = 39 ∨ r' = 52) → j' < 40 → mP M r' j' = some b → b < M.1.length := fun r' j' b h1 h2 h3 => by
      have := (hA.1 r' h1 j' b h2 h3).2.lt; omega
    refine ⟨M.1.length, stP M8 r j (some M.1.length), rfl, hlen, sO, by rw [mP_stP, if_pos ⟨rfl, rfl⟩], kp, ⟨fun r' h1 j' b h2 h3 => ?_, fun r1 r2 j1 j2 b a1 a2 b1 b2 c1 c2 => ?_⟩, by show M8.1.length ≤ _; rw [x.1]; simp, by show mS M8 ≤ _; rw [x.2.1]; omega, fun ⟨b, hb⟩ => by cases hb⟩
    · rw [own r' j' h1 h2] at h3
      split at h3
      · cases h3; exact ⟨hlen, sO⟩
      · obtain ⟨z1, z2⟩ := hA.1 r' h1 j' b h2 h3
        exact ⟨z1, z2.kp kp (fun i z => by have := z.1; unfold NC at z1; omega)⟩
    · rw [own r1 j1 a1 b1] at c1
      rw [own r2 j2 a2 b2] at c2
      split at c1
      · rename_i d1
        split at c2
        · rename_i d2; exact ⟨d1.1.trans d2.1.symm, d1.2.trans d2.2.symm⟩
        · cases c1; have := low r2 j2 _ a2 b2 c2; omega
      · split at c2
        · cases c2; have := low r1 j1 _ a1 b1 c1; omega
        · exact hA.2 r1 r2 j1 j2 b a1 a2 b1 b2 c1 c2
def keptL (L : List Sg) (s : Sg) : List Sg := (if L.length = 40 then L.drop 1 else L) ++ [s]
/-- the cells that a row at a takes -/
def Blk (a : Nat) (k : Nat) : Prop := a ≤ k ∧ k < a + 7
theorem fix_ru {a k n : Nat} (hs : StO M a) (hk : M.1[k]? = some (4, 0)) (hc : M.1[k + 1]? = some (100, n)) : ¬ Blk a (k + 1) := by
  rintro ⟨h1, h2⟩
  have key : ∀ i, i < 7 → M.1[a + i]? = some (6, 0) ∨ M.1[a + i]? = some (100, 8) := by
    intro i hi
    have : i = 0 ∨ i = 1 ∨ i = 2 ∨ i = 3 ∨ i = 4 ∨ i = 5 ∨ i = 6 := by omega
    rcases this with rfl | rfl | rfl | rfl | rfl | rfl | rfl
    · exact Or.inl hs.1
    · exact Or.inr hs.2.1.1
    · exact Or.inr hs.2.2.1.1
    · exact Or.inr hs.2.2.2.1.1
    · exact Or.inr hs.2.2.2.2.1.1
    · exact Or.inr hs.2.2.2.2.2.1.1
    · exact Or.inr hs.2.2.2.2.2.2.1
  by_cases e : k + 1 = a
  · rw [e, hs.1] at hc; cases hc
  · obtain ⟨i, hi⟩ : ∃ i, k = a + i := ⟨k - a, by omega⟩
    have := key i (by omega)
    rw [← hi, hk] at this
    rcases this with z | z <;> cases z
end
