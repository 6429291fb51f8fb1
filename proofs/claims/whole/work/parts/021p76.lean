/-! ===== all that both hold ===== -/
abbrev Se : Type := Nat × Nat × Int32
def Kp (X Y : Nat → Nat → Prop) (M M' : Mem) : Prop := M.1.length ≤ M'.1.length ∧ (∀ k, k < M.1.length → M'.1[k]? = M.1[k]?) ∧ (∀ k j, k < M.1.length → ¬ X k j → mI M' k j = mI M k j) ∧ ∀ k j, k < M.1.length → ¬ Y k j → mP M' k j = mP M k j
def Y0 (_ _ : Nat) : Prop := False
theorem ltT {M : Mem} {k : Nat} {t : mT} (h : M.1[k]? = some t) : k < M.1.length := (List.getElem?_eq_some_iff.mp h).1
section
variable {X Y : Nat → Nat → Prop} {M M' M'' : Mem} {g : Pg} {s : Sg} {a p o r : Nat} {L : List Sg} {E : List Se}
theorem Kp.tg (w : Kp X Y M M') {k : Nat} {t : mT} (h : M.1[k]? = some t) : M'.1[k]? = some t := by rw [w.2.1 k (ltT h)]; exact h
theorem Kp.rw (w : Kp X Y M M') {k : Nat} (h : k < M.1.length) (hX : ∀ j, ¬ X k j) : mI M' k = mI M k := funext fun j => w.2.2.1 k j h (hX j)
theorem Kp.pt (w : Kp X Y M M') {k j : Nat} {q : Option Nat} (h : k < M.1.length) (hY : ¬ Y k j) (e : mP M k j = q) : mP M' k j = q := by rw [w.2.2.2 k j h hY]; exact e
theorem Kp.refl : Kp X Y M M := ⟨Nat.le_refl _, fun _ _ => rfl, fun _ _ _ _ => rfl, fun _ _ _ _ => rfl⟩
theorem Kp.trans (w : Kp X Y M M') (w' : Kp X Y M' M'') : Kp X Y M M'' :=
  ⟨Nat.le_trans w.1 w'.1, fun k hk => (w'.2.1 k (Nat.lt_of_lt_of_le hk w.1)).trans (w.2.1 k hk), fun k j hk hX => (w'.2.2.1 k j (Nat.lt_of_lt_of_le hk w.1) hX).trans (w.2.2.1 k j hk hX), fun k j hk hY => (w'.2.2.2 k j (Nat.lt_of_lt_of_le hk w.1) hY).trans (w.2.2.2 k j hk hY)⟩
theorem Kp.mono {X' Y' : Nat → Nat → Prop} (w : Kp X Y M M') (hX : ∀ k j, k < M.1.length → X k j → X' k j) (hY : ∀ k j, Y k j → Y' k j) : Kp X' Y' M M' := ⟨w.1, w.2.1, fun k j hk h => w.2.2.1 k j hk fun z => h (hX k j hk z), fun k j hk h => w.2.2.2 k j hk fun z => h (hY k j z)⟩
theorem Wr.kp {W : List Nat} (w : Wr W M M') : Kp (fun k _ => k ∈ W) Y0 M M' := ⟨by rw [w.1]; exact Nat.le_refl _, fun k _ => by rw [w.1], fun k j _ h => by rw [w.2.2.2.2 k h], fun k j _ _ => by rw [w.2.2.1]⟩
theorem Ext.kp {T : List mT} {n : Nat} (w : Ext M M' a T n) : Kp (fun k _ => a ≤ k) (fun k _ => a ≤ k) M M' :=
  ⟨by rw [w.1]; simp, fun k hk => by rw [w.1, List.getElem?_append_left hk], fun k j _ h => by rw [(w.2.2 k (by omega)).1], fun k j _ h => by rw [(w.2.2 k (by omega)).2.1]⟩
theorem QC.kp (w : QC M M') : Kp (fun k _ => k ∈ ScC) Y0 M M' := ⟨by rw [w.1]; exact Nat.le_refl _, fun k _ => by rw [w.1], fun k j _ h => by rw [w.2.2.2.2 k h], fun k j _ _ => by rw [w.2.1]⟩
theorem nw_kp {t : mT} {n : Nat} : Kp (fun _ _ => False) Y0 M (nwM M t n) := ⟨by rw [len_nw]; omega, fun k hk => by show (M.1 ++ [t])[k]? = _; rw [List.getElem?_append_left hk], fun k j hk _ => by rw [mI_nw hk], fun k j hk _ => by rw [mP_nw hk]⟩
theorem Lay.kp (h : Lay M) (w : Kp X Y M M') (hY : ∀ q ∈ PT0, ¬ Y q.1 q.2.1) : Lay M' := by
  have h98 : 98 ≤ M.1.length := by have := ltT (h.t (k := 97) rfl); omega
  refine ⟨fun k hk => by rw [w.2.1 k (by omega)]; exact h.1 k hk, fun q hq => w.pt ?_ (hY q hq) (h.2 q hq)⟩
  have : ∀ q ∈ PT0, q.1 < 98 := by decide
  have := this q hq
  omega
theorem Lay.len (h : Lay M) : 98 ≤ M.1.length := by have := ltT (h.t (k := 97) rfl); omega
theorem StO.kp (h : StO M a) (w : Kp X Y M M') (hY : ∀ i, ¬ Y a i) : StO M' a := by
  obtain ⟨t0, ⟨t1, q1⟩, ⟨t2, q2⟩, ⟨t3, q3⟩, ⟨t4, q4⟩, ⟨t5, q5⟩, ⟨t6, q6⟩⟩ := h
  exact ⟨w.tg t0, ⟨w.tg t1, w.pt (ltT t0) (hY _) q1⟩, ⟨w.tg t2, w.pt (ltT t0) (hY _) q2⟩, ⟨w.tg t3, w.pt (ltT t0) (hY _) q3⟩, ⟨w.tg t4, w.pt (ltT t0) (hY _) q4⟩, ⟨w.tg t5, w.pt (ltT t0) (hY _) q5⟩, ⟨w.tg t6, w.pt (ltT t0) (hY _) q6⟩⟩
theorem StO.lt (h : StO M a) : a + 6 < M.1.length := ltT h.2.2.2.2.2.2.1
theorem StV.kp (h : StV M a g s) (w : Kp X Y M M') (hX : ∀ j, j < 7 → ∀ i, ¬ X (a + j) i) (hY : ∀ i, ¬ Y a i) : StV M' a g s := by
  have hl := h.1.lt
  obtain ⟨h1, h2, h3, h4, h5, h6⟩ := h
  have e : ∀ j, j < 7 → mI M' (a + j) = mI M (a + j) := fun j hj => w.rw (by omega) (hX j hj)
  have e0 : mI M' a = mI M a := e 0 (by omega)
  exact ⟨h1.kp w hY, by rw [e0]; exact h2, by rw [e0]; exact h3, by rw [e0]; exact h4, fun h hh => by rw [e 1 (by omega), e 2 (by omega), e 3 (by omega)]; exact h5 h hh, fun p hp => by rw [e 4 (by omega), e 5 (by omega), e 6 (by omega)]; exact h6 p hp⟩
theorem StO.disj {b : Nat} (h : StO M a) (h' : StO M b) (hne : a ≠ b) {i j : Nat} (hi : i < 7) (hj : j < 7) : a + i ≠ b + j := by
  intro e
  have key : ∀ x y, StO M x → StO M y → ∀ i, 0 < i → i < 7 → x + i ≠ y := by
    intro x y hx hy i h0 h7 e
    have : M.1[x + i]? = some (100, 8) := by
      have : i = 1 ∨ i = 2 ∨ i = 3 ∨ i = 4 ∨ i = 5 ∨ i = 6 := by omega
      rcases this with rfl | rfl | rfl | rfl | rfl | rfl
      · exact hx.2.1.1
      · exact hx.2.2.1.1
      · exact hx.2.2.2.1.1
      · exact hx.2.2.2.2.1.1
      · exact hx.2.2.2.2.2.1.1
      · exact hx.2.2.2.2.2.2.1
    rw [e, hy.1] at this
    cases this
  by_cases c : i ≤ j
  · by_cases c2 : i = j
    · omega
    · exact key b a h' h (j - i) (by omega) (by omega) (by omega)
  · exact key a b h h' (i - j) (by omega) (by omega) (by omega)
/-- a rule's code lies behind it -/
def RuN (M : Mem) (p : Nat) : Prop := ∀ k j, (j = 10 ∨ j = 11) → mP M p j = some k → NC ≤ k ∧ M.1[k]? = some (4, 0) ∧ mP M k 0 = some (k + 1) ∧ ∃ n, M.1[k + 1]? = some (100, n)
theorem RuQ.kp {q : Option Nat} {f : Option Ev} (h : RuQ M q f) (w : Kp X Y M M') (hn : ∀ k, q = some k → mP M k 0 = some (k + 1)) (hX : ∀ k, q = some k → ∀ i, ¬ X (k + 1) i) (hY : ∀ k, q = some k → ¬ Y k 0) : RuQ M' q f := by
  rcases h with h | ⟨k, e, h1, h2, h3⟩
  · exact Or.inl h
  · obtain ⟨r1, r2, c, l, r3, r4, r5, r6, r7, r8⟩ := h3
    have hc : c = k + 1 := Option.some.inj (r4.symm.trans (hn k h1))
    refine Or.inr ⟨k, e, h1, h2, w.tg r1, r2, c, l, r3, w.pt (ltT r1) (hY k h1) r4, w.tg r5, r6, fun i hi => ?_, r8⟩
    rw [w.rw (ltT r5) (by rw [hc]; exact hX k h1)]; exact r7 i hi
theorem PlO.kp (h : PlO M p) (w : Kp X Y M M') (hY : ∀ i, i ≠ 10 → i ≠ 11 → ¬ Y p i) : PlO M' p := by
  obtain ⟨u0, ⟨u1, r1⟩, ⟨u2, r2⟩, ⟨u3, r3⟩, ⟨u4, r4⟩, ⟨u5, r5⟩, ⟨u6, r6⟩, ⟨u7, r7⟩, ⟨u8, r8⟩, ⟨u9, r9⟩⟩ := h
  have hp : ∀ j v, j ≠ 10 → j ≠ 11 → mP M p j = some v → mP M' p j = some v := fun j v h1 h2 e => w.pt (ltT u0) (hY j h1 h2) e
  exact ⟨w.tg u0, ⟨w.tg u1, hp _ _ (by omega) (by omega) r1⟩, ⟨w.tg u2, hp _ _ (by omega) (by omega) r2⟩, ⟨w.tg u3, hp _ _ (by omega) (by omega) r3⟩, ⟨w.tg u4, hp _ _ (by omega) (by omega) r4⟩, ⟨w.tg u5, hp _ _ (by omega) (by omega) r5⟩, ⟨w.tg u6, hp _ _ (by omega) (by omega) r6⟩, ⟨w.tg u7, hp _ _ (by omega) (by omega) r7⟩, ⟨w.tg u8, hp _ _ (by omega) (by omega) r8⟩, ⟨w.tg u9, hp _ _ (by omega) (by omega) r9⟩⟩
theorem PlV.kp (h : PlV M p g) (hr : RuN M p) (w : Kp X Y M M') (hX : ∀ j, j < 8 → ∀ i, ¬ X (p + j) i) (hY : ∀ i, ¬ Y p i) (hX2 : ∀ k n i, NC ≤ k → M.1[k]? = some (4, 0) → M.1[k + 1]? = some (100, n) → ¬ X (k + 1) i) (hY2 : ∀ k i, NC ≤ k → M.1[k]? = some (4, 0) → ¬ Y k i) : PlV M' p g ∧ RuN M' p := by
  have hl : p + 9 < M.1.length := ltT h.1.2.2.2.2.2.2.2.2.2.1
  obtain ⟨h1, h2, h3, h4, h5, h6, h7, h8, h9, h10⟩ := h
  have e : ∀ j, j < 8 → mI M' (p + j) = mI M (p + j) := fun j hj => w.rw (by omega) (hX j hj)
  have e0 : mI M' p = mI M p := e 0 (by omega)
  have ep : ∀ j, mP M' p j = mP M p j := fun j => w.2.2.2 p j (by omega) (hY j)
  have q10 := h9.kp w (fun k hk => (hr k 10 (Or.inl rfl) hk).2.2.1) (fun k hk i => by obtain ⟨z1, z2, z3, n, z4⟩ := hr k 10 (Or.inl rfl) hk; exact hX2 k n i z1 z2 z4) (fun k hk => by obtain ⟨z1, z2, z3, n, z4⟩ := hr k 10 (Or.inl rfl) hk; exact hY2 k 0 z1 z2)
  have q11 := h10.kp w (fun k hk => (hr k 11 (Or.inr rfl) hk).2.2.1) (fun k hk i => by obtain ⟨z1, z2, z3, n, z4⟩ := hr k 11 (Or.inr rfl) hk; exact hX2 k n i z1 z2 z4) (fun k hk => by obtain ⟨z1, z2, z3, n, z4⟩ := hr k 11 (Or.inr rfl) hk; exact hY2 k 0 z1 z2)
  refine ⟨⟨h1.kp w (fun i _ _ => hY i), h2, by rw [e0]; exact h3, by rw [e0]; exact h4, by rw [e0]; exact h5, fun i hi => by rw [e 2 (by omega), e 3 (by omega)]; exact h6 i hi, fun i hi => by rw [e 5 (by omega)]; exact h7 i hi, fun i hi => by rw [e 7 (by omega)]; exact h8 i hi, by rw [ep]; exact q10, by rw [ep]; exact q11⟩, fun k j hj hk => ?_⟩
  rw [ep] at hk
  obtain ⟨z1, z2, z3, n, z4⟩ := hr k j hj hk
  exact ⟨z1, w.tg z2, w.pt (ltT z2) (hY2 k 0 z1 z2) z3, n, w.tg z4⟩
/-- rows of acts, where they are made -/
def AcR (M : Mem) : Prop := (∀ r, (r = 39 ∨ r = 52) → ∀ j a, j < 40 → mP M r j = some a → NC ≤ a ∧ StO M a) ∧ ∀ r r' j j' a, (r = 39 ∨ r = 52) → (r' = 39 ∨ r' = 52) → j < 40 → j' < 40 → mP M r j = some a → mP M r' j' = some a → r = r' ∧ j = j'
def AcV (M : Mem) (o r : Nat) (g : Pg) (L : List Sg) : Prop := ∃ f, f < 40 ∧ mI M o 1 = nI f ∧ mI M o 2 = nI L.length ∧ L.length ≤ 40 ∧ ∀ i t, L[i]? = some t → ∃ a, mP M r ((f + i) % 40) = some a ∧ StV M a g t
def SeV (M : Mem) (o : Nat) (g : Pg) (E : List Se) : Prop := mI M o 3 = nI E.length ∧ E.length ≤ 8 ∧ ∀ i e, E[i]? = some e → mI M (o + 1) i = nI e.1 ∧ mI M (o + 2) i = nI e.2.1 ∧ mI M (o + 3) i = e.2.2 ∧ e.1 < gH g ∧ e.2.1 ≤ 20 ∧ bnd e.2.2 0 99
def ImV (M : Mem) (g : Pg) : Option (Sg × List Sg × List Se) → Prop
  | none => mI M 0 8 = 0
  | some (s, L, E) => mI M 0 8 = 1 ∧ StV M 44 g s ∧ GdS 999 g s ∧ AcV M 51 52 g L ∧ (∀ t ∈ L, GdS 999 g t) ∧ SeV M 53 g E
def TaV (M : Mem) (T : List Nat) : Prop := mI M 1 1 = nI T.length ∧ T.length ≤ 700 ∧ ∀ i b, T[i]? = some b → b < 256 ∧ mI M 2 i = nby (nI b)
/-- the class: p plan, g, s, acts, seen, image, refused, tape, fault -/
def CI (M : Mem) (p : Nat) (g : Pg) (s : Sg) (L : List Sg) (E : List Se) (I : Option (Sg × List Sg × List Se)) (R : Nat → Int32) (T : List Nat) (f : Int32) : Prop :=
  Lay M ∧ ((p = 4 ∧ mP M 0 3 = some 14) ∨ (p = 14 ∧ mP M 0 3 = some 4)) ∧ mP M 0 2 = some p ∧ PlV M p g ∧ RuN M p ∧ StV M 24 g s ∧ GdS 999 g s ∧ AcR M ∧ AcV M 38 39 g L ∧ (∀ t ∈ L, GdS 999 g t) ∧ SeV M 40 g E ∧ ImV M g I ∧ (∀ i, i < 3 → mI M 57 i = R i) ∧ TaV M T ∧ mI M 0 1 = f
def SeM (M : Mem) (x : Int32) (c : Nat) (E : List Se) : Prop := x = nI E.length ∧ E.length ≤ 8 ∧ ∀ i e, E[i]? = some e → mI M c (3 * i) = nI e.1 ∧ mI M c (3 * i + 1) = nI e.2.1 ∧ mI M c (3 * i + 2) = e.2.2
def AcM (M : Mem) (x : Int32) (c : Nat) (g : Pg) (L : List Sg) : Prop := x = nI L.length ∧ L.length ≤ 40 ∧ ∀ i t, L[i]? = some t → RwV (mI M c) (43 * i) g t
def ImM (M : Mem) (g : Pg) : Option (Sg × List Sg × List Se) → Prop
  | none => mI M 67 56 = 0
  | some (s, L, E) => mI M 67 56 = 1 ∧ RwV (mI M 94) 0 g s ∧ AcM M (mI M 67 57) 95 g L ∧ SeM M (mI M 67 58) 96 E
/-- the reference -/
def MI (M : Mem) (g : Pg) (s : Sg) (L : List Sg) (E : List Se) (I : Option (Sg × List Sg × List Se)) (R : Nat → Int32) (T : List Nat) (f : Int32) : Prop :=
  MQu M g s ∧ AcM M (mI M 67 43) 84 g L ∧ SeM M (mI M 67 51) 91 E ∧ ImM M g I ∧ (∀ i, i < 3 → mI M 74 i = R i) ∧ (mI M 67 12 = nI T.length ∧ ∀ i b, T[i]? = some b → mI M 73 i = nI b) ∧ mI M 67 14 = f
theorem AcV.kp (h : AcV M o r g L) (w : Kp X Y M M') (ho : o < M.1.length) (hr : r < M.1.length) (hX : ∀ i, ¬ X o i) (hY : ∀ i, ¬ Y r i) (hX2 : ∀ j b, j < 40 → mP M r j = some b → ∀ k, k < 7 → ∀ i, ¬ X (b + k) i) (hY2 : ∀ j b, j < 40 → mP M r j = some b → ∀ i, ¬ Y b i) : AcV M' o r g L := by
  obtain ⟨f, h1, h2, h3, h4, h5⟩ := h
  have e := w.rw ho hX
  refine ⟨f, h1, by rw [e]; exact h2, by rw [e]; exact h3, h4, fun i t ht => ?_⟩
  obtain ⟨b, q1, q2⟩ := h5 i t ht
  have hj : (f + i) % 40 < 40 := Nat.mod_lt _ (by omega)
  exact ⟨b, w.pt hr (hY _) q1, q2.kp w (hX2 _ b hj q1) (hY2 _ b hj q1)⟩
theorem SeV.kp (h : SeV M o g E) (w : Kp X Y M M') (ho : o + 3 < M.1.length) (hX : ∀ j, j < 4 → ∀ i, ¬ X (o + j) i) : SeV M' o g E := by
  have e : ∀ j, j < 4 → mI M' (o + j) = mI M (o + j) := fun j hj => w.rw (by omega) (hX j hj)
  have e0 : mI M' o = mI M o := e 0 (by omega)
  exact ⟨by rw [e0]; exact h.1, h.2.1, fun i x hx => by rw [e 1 (by omega), e 2 (by omega), e 3 (by omega)]; exact h.2.2 i x hx⟩
theorem AcR.kp (h : AcR M) (w : Kp X Y M M') (hr : 98 ≤ M.1.length) (hY : ∀ i, ¬ Y 39 i ∧ ¬ Y 52 i) (hY2 : ∀ b i, NC ≤ b → ¬ Y b i) : AcR M' := by
  have e : ∀ r, (r = 39 ∨ r = 52) → ∀ j, mP M' r j = mP M r j := fun r hr' j => w.2.2.2 r j (by omega) (by rcases hr' with rfl | rfl; exact (hY j).1; exact (hY j).2)
  refine ⟨fun r h1 j b h2 h3 => ?_, fun r r' j j' b h1 h2 h3 h4 h5 h6 => ?_⟩
  · rw [e r h1] at h3
    obtain ⟨z1, z2⟩ := h.1 r h1 j b h2 h3
    exact ⟨z1, z2.kp w fun i => hY2 b i z1⟩
  · rw [e r h1] at h5; rw [e r' h2] at h6
    exact h.2 r r' j j' b h1 h2 h3 h4 h5 h6
/-- cells of the class that stay when only small ones change -/
theorem CI.kp {I : Option (Sg × List Sg × List Se)} {R : Nat → Int32} {T : List Nat} {f : Int32} (h : CI M p g s L E I R T f) (w : Kp X Y0 M M') (hX : ∀ k j, X k j → k ∈ ScC ∨ (67 ≤ k ∧ k < 98)) : CI M' p g s L E I R T f := by
  obtain ⟨hL, h2, h3, h4, h5, h6, h7, h8, h9, h10, h11, h12, h13, h14, h15⟩ := h
  have hlen := hL.len
  have nX : ∀ k, k ∉ ScC → (k < 67 ∨ 98 ≤ k) → ∀ j, ¬ X k j := fun k h1 h2 j z => by rcases hX k j z with z | z; exact h1 z; omega
  have n98 : ∀ k, 98 ≤ k → ∀ j, ¬ X k j := fun k h1 j z => by
    rcases hX k j z with z | z
    · unfold ScC at z; simp only [List.mem_cons, List.not_mem_nil, or_false] at z; omega
    · omega
  have hp : p = 4 ∨ p = 14 := by rcases h2 with z | z; exact Or.inl z.1; exact Or.inr z.1
  have nS : ∀ k, k ∈ [0, 1, 2, 4, 5, 6, 7, 8, 9, 10, 11, 14, 15, 16, 17, 18, 19, 20, 21, 24, 25, 26, 27, 28, 29, 30, 38, 39, 40, 41, 42, 43, 44, 45, 46, 47, 48, 49, 50, 51, 52, 53, 54, 55, 56, 57] → ∀ j, ¬ X k j := fun k hk => nX k (by
    have : ∀ k ∈ [0, 1, 2, 4, 5, 6, 7, 8, 9, 10, 11, 14, 15, 16, 17, 18, 19, 20, 21, 24, 25, 26, 27, 28, 29, 30, 38, 39, 40, 41, 42, 43, 44, 45, 46, 47, 48, 49, 50, 51, 52, 53, 54, 55, 56, 57], k ∉ ScC := by decide
    exact this k hk) (Or.inl (by
    have : ∀ k ∈ [0, 1, 2, 4, 5, 6, 7, 8, 9, 10, 11, 14, 15, 16, 17, 18, 19, 20, 21, 24, 25, 26, 27, 28, 29, 30, 38, 39, 40, 41, 42, 43, 44, 45, 46, 47, 48, 49, 50, 51, 52, 53, 54, 55, 56, 57], k < 67 := by decide
    exact this k hk))
  have y0 : ∀ k i, ¬ Y0 k i := fun _ _ z => z
  have pl := h4.kp h5 w (fun j hj i => by
    rcases hp with rfl | rfl
    · exact nS _ (by simp; omega) i
    · exact nS _ (by simp; omega) i) (fun i => y0 _ i) (fun k n i hk _ _ => n98 _ (by unfold NC at hk; omega) i) (fun k i _ _ => y0 _ _)
  have rowX : ∀ r, (r = 39 ∨ r = 52) → ∀ j b, j < 40 → mP M r j = some b → ∀ k, k < 7 → ∀ i, ¬ X (b + k) i := fun r hr j b hj hb k hk i => n98 _ (by have := (h8.1 r hr j b hj hb).1; unfold NC at this; omega) i
  have e0 : mI M' 0 = mI M 0 := w.rw (by omega) (nS 0 (by decide))
  refine ⟨hL.kp w (fun q _ => y0 _ _), ?_, w.pt (by omega) (y0 _ _) h3, pl.1, pl.2, h6.kp w (fun j hj i => nS _ (by simp; omega) i) (fun i => y0 _ _), h7, h8.kp w hlen (fun i => ⟨y0 _ _, y0 _ _⟩) (fun b i _ => y0 _ _), h9.kp w (by omega) (by omega) (nS 38 (by decide)) (fun i => y0 _ _) (rowX 39 (Or.inl rfl)) (fun _ _ _ _ i => y0 _ _), h10, h11.kp w (by omega) (fun j hj i => nS _ (by simp; omega) i), ?_, fun i hi => by rw [w.rw (by omega) (nS 57 (by decide))]; exact h13 i hi, ?_, by rw [e0]; exact h15⟩
  · rcases h2 with z | z
    · exact Or.inl ⟨z.1, w.pt (by omega) (y0 _ _) z.2⟩
    · exact Or.inr ⟨z.1, w.pt (by omega) (y0 _ _) z.2⟩
  · cases I with
    | none => show mI M' 0 8 = 0; rw [e0]; exact h12
    | some x =>
      obtain ⟨s', L', E'⟩ := x
      obtain ⟨z1, z2, z3, z4, z5, z6⟩ := h12
      exact ⟨by rw [e0]; exact z1, z2.kp w (fun j hj i => nS _ (by simp; omega) i) (fun i => y0 _ _), z3, z4.kp w (by omega) (by omega) (nS 51 (by decide)) (fun i => y0 _ _) (rowX 52 (Or.inr rfl)) (fun _ _ _ _ i => y0 _ _), z5, z6.kp w (by omega) (fun j hj i => nS _ (by simp; omega) i)⟩
  · unfold TaV
    rw [w.rw (k := 1) (by omega) (nS 1 (by decide)), w.rw (k := 2) (by omega) (nS 2 (by decide))]
    exact h14
theorem RwV.fr {f f' : Nat → Int32} {b : Nat} (h : RwV f b g s) (e : f' = f) : RwV f' b g s := by rw [e]; exact h
theorem MI.fr {I : Option (Sg × List Sg × List Se)} {R : Nat → Int32} {T : List Nat} {f : Int32} (h : MI M g s L E I R T f) (hL : Lay M') (e : ∀ k, 67 ≤ k → k < 97 → mI M' k = mI M k) : MI M' g s L E I R T f := by
  obtain ⟨h1, h2, h3, h4, h5, h6, h7⟩ := h
  have m : MQu M' g s := by
    refine ⟨⟨hL, ?_, h1.1.2.2.1, h1.1.2.2.2.1, by rw [e 83 (by omega) (by omega)]; exact h1.1.rw, h1.1.gd⟩, by rw [e 67 (by omega) (by omega)]; exact h1.2⟩
    unfold MPl
    rw [e 67 (by omega) (by omega), e 68 (by omega) (by omega), e 69 (by omega) (by omega), e 70 (by omega) (by omega), e 71 (by omega) (by omega), e 72 (by omega) (by omega)]
    exact h1.1.2.1
  refine ⟨m, ?_, ?_, ?_, ?_, ?_, ?_⟩
  · unfold AcM; rw [e 67 (by omega) (by omega), e 84 (by omega) (by omega)]; exact h2
  · unfold SeM; rw [e 67 (by omega) (by omega), e 91 (by omega) (by omega)]; exact h3
  · cases I with
    | none => show mI M' 67 56 = 0; rw [e 67 (by omega) (by omega)]; exact h4
    | some x =>
      obtain ⟨s', L', E'⟩ := x
      show mI M' 67 56 = 1 ∧ RwV (mI M' 94) 0 g s' ∧ AcM M' (mI M' 67 57) 95 g L' ∧ SeM M' (mI M' 67 58) 96 E'
      unfold AcM SeM
      rw [e 67 (by omega) (by omega), e 94 (by omega) (by omega), e 95 (by omega) (by omega), e 96 (by omega) (by omega)]
      exact h4
  · rw [e 74 (by omega) (by omega)]; exact h5
  · rw [e 67 (by omega) (by omega), e 73 (by omega) (by omega)]; exact h6
  · rw [e 67 (by omega) (by omega)]; exact h7
/-- room for n calls so far -/
def Rm (M : Mem) (n : Nat) : Prop := M.1.length ≤ 98 + 1000 * n ∧ mS M ≤ 20000 + 12000 * n
theorem Rm.cq {n : Nat} (h : Rm M n) (hn : n ≤ 512) : M.1.length + 1 ≤ CLM ∧ mS M + 6 ≤ SLM := by
  unfold Rm at h; unfold CLM SLM; omega
theorem CI.cq {I : Option (Sg × List Sg × List Se)} {R : Nat → Int32} {T : List Nat} {f : Int32} {n : Nat} (h : CI M p g s L E I R T f) (hr : Rm M n) (hn : n ≤ 512) : CQ M p g s :=
  ⟨h.1, (by rcases h.2.1 with z | z; exact Or.inl z.1; exact Or.inr z.1), h.2.2.1, h.2.2.2.1, h.2.2.2.2.2.1, h.2.2.2.2.2.2.1, (hr.cq hn).1, (hr.cq hn).2⟩
/-- all of it -/
def Inv (M : Mem) (n : Nat) : Prop := ∃ p g s L E I R T f, CI M p g s L E I R T f ∧ MI M g s L E I R T f ∧ Rm M n
theorem MI.q {I : Option (Sg × List Sg × List Se)} {R : Nat → Int32} {T : List Nat} {f : Int32} (h : MI M g s L E I R T f) (w : QW M M') (h46 : mI M' 67 46 = -1) : MI M' g s L E I R T f := by
  obtain ⟨h1, h2, h3, h4, h5, h6, h7⟩ := h
  have e : ∀ k, k ∈ [73, 74, 84, 91, 94, 95, 96] → mI M' k = mI M k := fun k hk => w.row (by
    have : ∀ k ∈ [73, 74, 84, 91, 94, 95, 96], k ∉ ScL := by decide
    exact this k hk) (by intro z; subst z; revert hk; decide) (by intro z; subst z; revert hk; decide)
  have e67 : ∀ j, j ≠ 0 → j ≠ 46 → j ≠ 55 → mI M' 67 j = mI M 67 j := fun j a b c => w.2.2.2.2 67 j (by
    rintro (z | z | z)
    · exact absurd z (by decide)
    · omega
    · omega)
  refine ⟨h1.q w h46, ?_, ?_, ?_, ?_, ?_, ?_⟩
  · unfold AcM; rw [e67 43 (by omega) (by omega) (by omega), e 84 (by decide)]; exact h2
  · unfold SeM; rw [e67 51 (by omega) (by omega) (by omega), e 91 (by decide)]; exact h3
  · cases I with
    | none => show mI M' 67 56 = 0; rw [e67 56 (by omega) (by omega) (by omega)]; exact h4
    | some x =>
      obtain ⟨s', L', E'⟩ := x
      show mI M' 67 56 = 1 ∧ RwV (mI M' 94) 0 g s' ∧ AcM M' (mI M' 67 57) 95 g L' ∧ SeM M' (mI M' 67 58) 96 E'
      unfold AcM SeM
      rw [e67 56 (by omega) (by omega) (by omega), e67 57 (by omega) (by omega) (by omega), e67 58 (by omega) (by omega) (by omega), e 94 (by decide), e 95 (by decide), e 96 (by decide)]
      exact h4
  · rw [e 74 (by decide)]; exact h5
  · rw [e67 12 (by omega) (by omega) (by omega), e 73 (by decide)]; exact h6
  · rw [e67 14 (by omega) (by omega) (by omega)]; exact h7
theorem CI.q {I : Option (Sg × List Sg × List Se)} {R : Nat → Int32} {T : List Nat} {f : Int32} (h : CI M p g s L E I R T f) (w : QW M M') : CI M' p g s L E I R T f := by
  refine h.kp (X := fun k j => Sc k j) ⟨by rw [w.1]; exact Nat.le_refl _, fun k _ => by rw [w.1], fun k j _ hk => w.2.2.2.2 k j hk, fun k j _ _ => by rw [w.2.1]⟩ fun k j z => ?_
  rcases z with z | z | z
  · have : ∀ k ∈ ScL, k ∈ ScC ∨ (67 ≤ k ∧ k < 98) := by decide
    exact this k z
  · omega
  · omega
end
