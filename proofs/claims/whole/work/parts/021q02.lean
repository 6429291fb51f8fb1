/-! ===== the image ===== -/
section
variable {M M' M1 M2 : Mem} {p m : Nat} {g : Pg} {s s' : Sg} {L L' : List Sg} {E E' : List Se} {I I' : Option (Sg × List Sg × List Se)} {R R' : Nat → Int32} {T T' : List Nat} {f f' : Int32}
/-- one row of acts into another -/
def ACJ (M : Mem) (o r o' r' p n : Nat) (g : Pg) (L : List Sg) (i : Nat) (M' : Mem) : Prop :=
  Kp (fun k _ => 98 ≤ k ∨ k = o) (fun k _ => k = r) M M' ∧ Lay M' ∧ AcR M' ∧ PlV M' p g ∧ RuN M' p ∧ AcV M' o' r' g L ∧ mI M' o 1 = nI 0 ∧ mI M' o 2 = nI L.length ∧ (∀ k t, k < i → L[k]? = some t → ∃ a, mP M' r k = some a ∧ StV M' a g t) ∧ M'.1.length ≤ M.1.length + 7 * i ∧ mS M' ≤ mS M + 57 * i
theorem F_acopy {o r o' r' : Nat} (ho : (o = 38 ∧ r = 39 ∧ o' = 51 ∧ r' = 52) ∨ (o = 51 ∧ r = 52 ∧ o' = 38 ∧ r' = 39)) (hL : Lay M) (hp : p = 4 ∨ p = 14) (hA : AcR M) (h4 : PlV M p g) (h5 : RuN M p) (hV : AcV M o' r' g L) (hgd : ∀ t ∈ L, GdS 999 g t) (h1 : M.1.length + 280 ≤ CLM) (h2 : mS M + 2280 ≤ SLM) : ∃ M', F_X0_copy o o' M = some M' ∧ Kp (fun k _ => 98 ≤ k ∨ k = o) (fun k _ => k = r) M M' ∧ Lay M' ∧ AcR M' ∧ PlV M' p g ∧ RuN M' p ∧ AcV M' o' r' g L ∧ AcV M' o r g L ∧ M'.1.length ≤ M.1.length + 280 ∧ mS M' ≤ mS M + 2280 := by
  have hl := hL.len
  have hr : r = 39 ∨ r = 52 := by omega
  have hr' : r' = 39 ∨ r' = 52 := by omega
  have hrr : r' ≠ r := by omega
  have to : ∀ N, Lay N → N.1[o]? = some (0, 0) ∧ N.1[o']? = some (0, 0) := fun N hN => by
    rcases ho with ⟨rfl, rfl, rfl, rfl⟩ | ⟨rfl, rfl, rfl, rfl⟩
    · exact ⟨hN.t rfl, hN.t rfl⟩
    · exact ⟨hN.t rfl, hN.t rfl⟩
  obtain ⟨f0, a1, a2, a3, a4, a5⟩ := hV
  have w0 : Wr [o] M (stI (stI M o 1 0) o 2 (nI L.length)) := (Wr.rfl'.st (by simp)).st (by simp)
  have k0 : Kp (fun k _ => 98 ≤ k ∨ k = o) (fun k _ => k = r) M (stI (stI M o 1 0) o 2 (nI L.length)) := w0.kp.mono (fun k j _ z => Or.inr (by simpa using z)) (fun k j z => z.elim)
  have n98 : ∀ b : Nat, NC ≤ b → ∀ k, b + k ≠ o := fun b hb k => by unfold NC at hb; omega
  have hst : ACJ M o r o' r' p L.length g L 0 (stI (stI M o 1 0) o 2 (nI L.length)) := by
    refine ⟨k0, hL, hA, ?_, ?_, ?_, ?_, ?_, fun k t hk => by omega, by show M.1.length ≤ _; omega, by show mS M ≤ _; omega⟩
    · exact (h4.kp h5 w0.kp (fun j hj i z => by simp at z; omega) (fun _ z => z) (fun k n i hk _ _ z => by simp at z; unfold NC at hk; omega) (fun _ _ _ _ z => z)).1
    · exact (h4.kp h5 w0.kp (fun j hj i z => by simp at z; omega) (fun _ z => z) (fun k n i hk _ _ z => by simp at z; unfold NC at hk; omega) (fun _ _ _ _ z => z)).2
    · refine AcV.kp ⟨f0, a1, a2, a3, a4, a5⟩ w0.kp (by omega) (by omega) (fun i z => by simp at z; omega) (fun _ z => z) (fun j b hj hb k hk i z => ?_) (fun _ _ _ _ _ z => z)
      simp at z
      exact n98 b (hA.1 r' hr' j b hj hb).1 k z
    · rw [mI_steq, upg_ne (by omega), mI_steq, upg_eq]; rfl
    · rw [mI_steq, upg_eq]
  obtain ⟨M2, e2, j2⟩ := loop_mm (step := fun z : Int32 × Mem => F_X0_copy_s15 o o' z.1 z.2) (fun i M' => (nI i, M')) (fun M' => M') L.length (fun i M' => ACJ M o r o' r' p L.length g L i M') hst (by
    rintro i N hi ⟨kN, lN, aN, pN, rN, vN, f1, f2, rows, len, slo⟩
    have hlN := lN.len
    obtain ⟨t, ht⟩ : ∃ t, L[i]? = some t := ⟨L[i], List.getElem?_eq_getElem hi⟩
    obtain ⟨a, N1, e1, c1, c2, c3, c4, c5, c6, c7, -⟩ := C_row (o := o) (r := r) (j := i) lN (by omega) aN (by omega) (by omega) (by omega)
    have lN1 : Lay N1 := lN.kp c4 (fun q hq z => by
      have : ∀ q ∈ PT0, q.1 ≠ 39 ∧ q.1 ≠ 52 := by decide
      have := this q hq
      have := z.1
      omega)
    have hlN1 := lN1.len
    have krow : KR [] a r i N N1 := c4.mono (fun _ _ _ z => z.elim) (fun _ _ z => z)
    obtain ⟨f0', b1, b2, b3, b4, b5⟩ := vN
    obtain ⟨b, q1, q2⟩ := b5 i t ht
    have hm : (f0' + i) % 40 < 40 := Nat.mod_lt _ (by omega)
    obtain ⟨q1', q2'⟩ := KR.row krow aN c5 hr (by omega) c3 (by simp) hlN hr' hm (fun z => hrr z.1) q1 q2
    have hb98 := (c5.1 r' hr' _ b hm q1').1
    have er : F_X0_row o' (nI ((f0' + i) % 40)) N1 = some (b, N1) := by
      unfold F_X0_row
      have po : mP N1 o' 0 = some r' := by rcases ho with ⟨rfl, rfl, rfl, rfl⟩ | ⟨rfl, rfl, rfl, rfl⟩; exact lN1.p (by decide); exact lN1.p (by decide)
      have tr : N1.1[r']? = some (104, 40) := by rcases hr' with rfl | rfl; exact lN1.t rfl; exact lN1.t rfl
      rw [gP_t (to N1 lN1).2 po, ob_t, aQ_t tr hm (by omega), q1', bdQ_s]
    have hba : b ≠ a := fun z => hrr (by subst z; exact (c5.2 r' r _ i b hr' hr hm (by omega) q1' c3).1)
    have sep : a + 7 ≤ b ∨ b + 7 ≤ a := by
      have d1 : ∀ i j, i < 7 → j < 7 → a + i ≠ b + j := fun i j hi hj => StO.disj c2 q2'.1 (fun z => hba z.symm) hi hj
      by_cases z1 : a + 7 ≤ b
      · exact Or.inl z1
      · by_cases z2 : b + 7 ≤ a
        · exact Or.inr z2
        · exfalso
          by_cases z3 : a ≤ b
          · exact d1 (b - a) 0 (by omega) (by omega) (by omega)
          · exact d1 0 (a - b) (by omega) (by omega) (by omega)
    obtain ⟨N2, e2, s2, w2⟩ := F_copy c2 q2' (hgd t (List.mem_of_getElem? ht)) h4.2.1 sep
    have hWC : ∀ k, k ∈ WC a ↔ Blk a k := fun k => by unfold WC Blk; simp; omega
    have kr2 : KR [] a r i N N2 := by
      refine ⟨by rw [w2.1]; exact c4.1, fun k hk => by rw [w2.1]; exact c4.2.1 k hk, fun k j hk hX => ?_, fun k j hk hY => by rw [w2.2.2.1]; exact c4.2.2.2 k j hk hY⟩
      rw [w2.2.2.2.2 k (fun z => hX (Or.inl ((hWC k).mp z)))]
      exact c4.2.2.1 k j hk (fun z => z)
    have aN2 : AcR N2 := c5.kp (X := fun _ _ => True) (Y := Y0) ⟨by rw [w2.1]; exact Nat.le_refl _, fun k _ => by rw [w2.1], fun _ _ _ z => absurd trivial z, fun k i _ _ => by rw [w2.2.2.1]⟩ hlN1 (fun _ => ⟨fun z => z, fun z => z⟩) (fun _ _ _ z => z)
    have ja2 : mP N2 r i = some a := by rw [w2.2.2.1]; exact c3
    have pl := KR.pl kr2 pN rN hp c1 (aN2.1 r hr i a (by omega) ja2).2 hr (by simp)
    have eo : mI N2 o = mI N o := KR.small kr2 c1 hlN (k := o) (by omega) (by simp)
    refine ⟨N2, ?_, kN.trans (kr2.mono (fun k j _ z => ?_) (fun k j z => z.1)), lN1.wr w2, aN2, pl.1, pl.2, KR.ac kr2 c1 aN aN2 hr (by omega) ja2 (by simp) hlN (by omega) (by simp) hrr ⟨f0', b1, b2, b3, b4, b5⟩, by rw [eo]; exact f1, by rw [eo]; exact f2, fun k u hk hu => ?_, by rw [w2.1]; omega, by rw [w2.2.2.2.1]; omega⟩
    · unfold F_X0_copy_s15
      dsimp only
      have eo1 : mI N1 o' = mI N o' := c4.rw (by omega) (fun _ z => z)
      rw [gI_t (to N lN).1, ob_t, f2, if_neg (nI_ge hi (by omega)), ckO_t (to N lN).1, e1, bd2_t, gI_t (to N1 lN1).2, ob_t, ckO_t (to N1 lN1).2, eo1, b2, rem40 (by omega), er, bd2_t, ckO_t c2.1, e2, ob_t, nI_1]
    · rcases z with z | z
      · have := z.1; unfold NC at c1; exact Or.inl (by omega)
      · simp at z
    · by_cases e : k = i
      · subst e
        have : u = t := Option.some.inj (hu.symm.trans ht)
        subst this
        exact ⟨a, ja2, s2⟩
      · obtain ⟨x, x1, x2⟩ := rows k u (by omega) hu
        obtain ⟨y1, y2⟩ := KR.row kr2 aN aN2 hr (by omega) ja2 (by simp) hlN hr (show k < 40 by omega) (fun z => e z.2) x1 x2
        exact ⟨x, y1, y2⟩) (by
    rintro N ⟨kN, lN, aN, pN, rN, vN, f1, f2, rows, len, slo⟩
    unfold F_X0_copy_s15
    dsimp only
    rw [gI_t (to N lN).1, ob_t, f2, if_pos (nI_le (Nat.le_refl _) (by omega))])
  obtain ⟨kN, lN, aN, pN, rN, vN, f1, f2, rows, len, slo⟩ := j2
  refine ⟨M2, ?_, kN, lN, aN, pN, rN, vN, ⟨0, by omega, f1, f2, a4, fun i t ht => ?_⟩, by omega, by omega⟩
  · unfold F_X0_copy
    have e2' : loop (fun z : Int32 × Mem => F_X0_copy_s15 o o' z.1 z.2) ((0 : Int32), stI (stI M o 1 0) o 2 (nI L.length)) = some M2 := e2
    rw [pI_t (to M hL).1, ob_t, gI_t (M := stI M o 1 0) (to M hL).2, ob_t, mI_stne (by omega), a3, pI_t (M := stI M o 1 0) (to M hL).1, ob_t, e2', ob_t]
  · have hi := (List.getElem?_eq_some_iff.mp ht).1
    obtain ⟨x, x1, x2⟩ := rows i t hi ht
    exact ⟨x, by rw [Nat.zero_add, Nat.mod_eq_of_lt (by omega)]; exact x1, x2⟩
theorem F_scopy {o o' : Nat} (ho : (o = 40 ∧ o' = 53) ∨ (o = 53 ∧ o' = 40)) (hL : Lay M) (h : SeV M o' g E) : ∃ M', F_X5_copy o o' M = some M' ∧ SeV M' o g E ∧ Wr [o, o + 1, o + 2, o + 3] M M' := by
  have to : M.1[o]? = some (5, 0) ∧ M.1[o']? = some (5, 0) ∧ (∀ j, j < 3 → M.1[o + 1 + j]? = some (100, 8) ∧ M.1[o' + 1 + j]? = some (100, 8)) ∧ (∀ j, j < 3 → mP M o j = some (o + 1 + j) ∧ mP M o' j = some (o' + 1 + j)) := by
    rcases ho with ⟨rfl, rfl⟩ | ⟨rfl, rfl⟩
    all_goals
      refine ⟨hL.t rfl, hL.t rfl, fun j hj => ?_, fun j hj => ?_⟩
      · have : j = 0 ∨ j = 1 ∨ j = 2 := by omega
        rcases this with rfl | rfl | rfl
        · exact ⟨hL.t rfl, hL.t rfl⟩
        · exact ⟨hL.t rfl, hL.t rfl⟩
        · exact ⟨hL.t rfl, hL.t rfl⟩
      · have : j = 0 ∨ j = 1 ∨ j = 2 := by omega
        rcases this with rfl | rfl | rfl
        · exact ⟨hL.p (by decide), hL.p (by decide)⟩
        · exact ⟨hL.p (by decide), hL.p (by decide)⟩
        · exact ⟨hL.p (by decide), hL.p (by decide)⟩
  obtain ⟨t1, t2, t3, t4⟩ := to
  have gR : ∀ (N : Mem) (c : Nat) (F : Nat → Int32) (ci k j : Nat), gP (stR N c F) ci k j = gP N ci k j := fun _ _ _ _ _ _ => rfl
  have cp : ∀ (N : Mem) (x y : Nat), N.1 = M.1 → M.1[x]? = some (100, 8) → M.1[y]? = some (100, 8) → cpI N x 0 y 0 8 = some (stR N y (va_cpy (mI N x) (mI N y) 0 0 8)) := fun N x y e hx hy => cpI_8 (by rw [e]; exact hx) (by rw [e]; exact hy)
  unfold F_X5_copy
  rw [gI_t t2, ob_t, pI_t t1, ob_t, gP_st, gP_t t2 (t4 0 (by omega)).2, ob_t, gP_st, gP_t t1 (t4 0 (by omega)).1, ob_t, cp (stI M o 3 (mI M o' 3)) _ _ rfl (t3 0 (by omega)).2 (t3 0 (by omega)).1, ob_t]
  simp only [gR, gP_st]
  rw [gP_t t2 (t4 1 (by omega)).2, ob_t, gP_t t1 (t4 1 (by omega)).1, ob_t, cp (stR (stI M o 3 (mI M o' 3)) (o + 1 + 0) _) _ _ rfl (t3 1 (by omega)).2 (t3 1 (by omega)).1, ob_t]
  simp only [gR, gP_st]
  rw [gP_t t2 (t4 2 (by omega)).2, ob_t, gP_t t1 (t4 2 (by omega)).1, ob_t, cp (stR (stR (stI M o 3 (mI M o' 3)) (o + 1 + 0) _) (o + 1 + 1) _) _ _ rfl (t3 2 (by omega)).2 (t3 2 (by omega)).1, ob_t]
  refine ⟨_, rfl, ⟨?_, h.2.1, fun i e he => ?_⟩, (((Wr.rfl'.st (by simp)).stR (by simp)).stR (by simp)).stR (by simp)⟩
  · rw [mI_stRne (by omega), mI_stRne (by omega), mI_stRne (by omega), mI_steq, upg_eq]; exact h.1
  · have hi : i < 8 := Nat.lt_of_lt_of_le (List.getElem?_eq_some_iff.mp he).1 h.2.1
    obtain ⟨z1, z2, z3, z4⟩ := h.2.2 i e he
    refine ⟨?_, ?_, ?_, z4⟩
    · rw [mI_stRne (by omega), mI_stRne (by omega), show o + 1 = o + 1 + 0 from rfl, mI_stReq, cpy_lt hi, mI_stne (by omega)]; exact z1
    · rw [mI_stRne (by omega), show o + 2 = o + 1 + 1 from rfl, mI_stReq, cpy_lt hi, mI_stRne (by omega), mI_stne (by omega)]; exact z2
    · rw [show o + 3 = o + 1 + 2 from rfl, mI_stReq, cpy_lt hi, mI_stRne (by omega), mI_stRne (by omega), mI_stne (by omega)]; exact z3
end
