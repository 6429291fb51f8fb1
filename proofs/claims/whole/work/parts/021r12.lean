/-! ===== a town begins ===== -/
section
variable {M M' M1 M2 N N' : Mem} {p : Nat} {G : Gt}
noncomputable def evO (o : Option (List Int32)) : Option Ev := o.map fun l => by classical exact if h : ∃ f, Bal (HH 0 0) l f then Classical.choose h else fun _ => 0
theorem ev_s {l : List Int32} (h : ∃ f, Bal (HH 0 0) l f) : ∃ f, evO (some l) = some f ∧ Bal (HH 0 0) l f := by
  refine ⟨Classical.choose h, ?_, Classical.choose_spec h⟩
  unfold evO
  rw [Option.map_some, dif_pos h]
noncomputable def gPl (G : Gt) : Pg := (tH G, tP G, tD G, tGiv G, tStr G, tGro G, tDam G, evO (tEas G), evO (tBur G))
def s0G (G : Gt) : Sg := (0, 0, 0, tSiz G, fun _ => 0, fun _ => -1, tHee G, fun _ => 0)
def bgN (G : Gt) : Nat → Sg := itN (fun i s => if tHom G i = -1 then s else putS s (tHom G i).toNatClampNeg i) (s0G G)
theorem bg_s {i : Nat} : bgN G (i + 1) = if tHom G i = -1 then bgN G i else putS (bgN G i) (tHom G i).toNatClampNeg i := rfl
theorem bg_o : ∀ i, sDay (bgN G i) = 0 ∧ sWet (bgN G i) = 0 ∧ sBur (bgN G i) = 0 ∧ sSiz (bgN G i) = tSiz G ∧ sWor (bgN G i) = (fun _ => 0) ∧ sHee (bgN G i) = tHee G ∧ sSor (bgN G i) = fun _ => 0
  | 0 => ⟨rfl, rfl, rfl, rfl, rfl, rfl, rfl⟩
  | i + 1 => by
    rw [bg_s]
    split
    · exact bg_o i
    · exact bg_o i
theorem bg_w (g : GdG G) : ∀ i, i ≤ tP G → ∀ h, h < tH G → (∃ j, j < i ∧ tHom G j = nI h ∧ sWho (bgN G i) h = nI j) ∨ ((∀ j, j < i → tHom G j ≠ nI h) ∧ sWho (bgN G i) h = -1)
  | 0, _, h, _ => Or.inr ⟨fun j hj => absurd hj (Nat.not_lt_zero _), rfl⟩
  | i + 1, hi, h, hh => by
    have ih := bg_w g i (by omega) h hh
    have h8 := g.1
    rw [bg_s]
    rcases (g.2.2.1 i (by omega)).2.2 with z | ⟨x, hx, z⟩
    · rw [if_pos z]
      rcases ih with ⟨j, j1, j2⟩ | ⟨j1, j2⟩
      · exact Or.inl ⟨j, by omega, j2⟩
      · refine Or.inr ⟨fun j hj y => ?_, j2⟩
        by_cases e : j = i
        · rw [e, z] at y; exact nI_nm1 (by omega) y.symm
        · exact j1 j (by omega) y
    · rw [if_neg (by rw [z]; exact nI_nm1 (by omega)), z, nI_clamp (by omega)]
      show (∃ j, j < i + 1 ∧ tHom G j = nI h ∧ upg (sWho (bgN G i)) x (nI i) h = nI j) ∨ ((∀ j, j < i + 1 → tHom G j ≠ nI h) ∧ upg (sWho (bgN G i)) x (nI i) h = -1)
      by_cases e : h = x
      · rw [e, upg_eq]
        exact Or.inl ⟨i, by omega, z, rfl⟩
      · rw [upg_ne e]
        rcases ih with ⟨j, j1, j2⟩ | ⟨j1, j2⟩
        · exact Or.inl ⟨j, by omega, j2⟩
        · refine Or.inr ⟨fun j hj y => ?_, j2⟩
          by_cases e' : j = i
          · rw [e', z] at y
            exact e ((nI_eq (by omega) (by omega)).mp y).symm
          · exact j1 j (by omega) y
theorem gp_g (g : GdG G) : GdP (gPl G) := ⟨g.1.1, g.1.2.1, g.1.2.2, fun h hh => ⟨(g.2.1 h hh).2.1, (g.2.1 h hh).2.2⟩, fun i hi => (g.2.2.1 i hi).2.1, fun i hi => g.2.2.2.2.1 i hi⟩
theorem bg_free (g : GdG G) {i x : Nat} (hi : i < tP G) (hx : x < tH G) (z : tHom G i = nI x) : sWho (bgN G i) x = -1 ∧ ∀ k, k < tH G → sWho (bgN G i) k ≠ nI i := by
  have h8 := g.1
  constructor
  · rcases bg_w g i (by omega) x hx with ⟨j, j1, j2, -⟩ | ⟨-, j2⟩
    · have := g.2.2.2.1 i j hi (by omega) (z.trans j2.symm) (by rw [z]; exact nI_nm1 (by omega))
      omega
    · exact j2
  · intro k hk y
    rcases bg_w g i (by omega) k hk with ⟨j, j1, -, j3⟩ | ⟨-, j2⟩
    · rw [j3] at y
      have := (nI_eq (by omega) (by omega)).mp y
      omega
    · rw [j2] at y; exact nI_nm1 (by omega) y.symm
theorem bg_gd (g : GdG G) : ∀ i, i ≤ tP G → GdS 999 (gPl G) (bgN G i)
  | 0, _ => by
    have b0 : ∀ lo hi : Int, lo ≤ 0 → 0 ≤ hi → bnd 0 lo hi := fun lo hi a b => by unfold bnd; exact ⟨a, b⟩
    have z0 : ∀ k, bitI 0 k = false := fun k => by
      by_cases h : k < 32
      · have : ∀ k, k < 32 → bitI 0 k = false := by decide
        exact this k h
      · exact bit_big (by omega)
    refine ⟨b0 _ _ (by omega) (by omega), Or.inl rfl, fun h hh => ⟨(g.2.1 h hh).1, b0 _ _ (by omega) (by omega), Or.inl rfl⟩, fun i hi => ⟨?_, b0 _ _ (by omega) (by omega)⟩, fun h k _ _ _ ne => absurd rfl ne, fun h _ ne => absurd rfl ne, fun k _ => z0 k⟩
    have := (g.2.2.1 i hi).1
    unfold bnd at this ⊢
    show 1 ≤ (tHee G i).toInt ∧ (tHee G i).toInt ≤ 99
    omega
  | i + 1, hi => by
    have ih := bg_gd g i (by omega)
    have h8 := g.1
    rw [bg_s]
    rcases (g.2.2.1 i (by omega)).2.2 with z | ⟨x, hx, z⟩
    · rw [if_pos z]; exact ih
    · rw [if_neg (by rw [z]; exact nI_nm1 (by omega)), z, nI_clamp (by omega)]
      have fr := bg_free g (by omega) hx z
      refine ih.put (gp_g g) hx (show i < tP G by omega) (fun k hk _ => fr.2 k hk) ?_
      rw [(bg_o i).2.2.1]
      have : ∀ k, k < 32 → bitI 0 k = false := by decide
      exact this x (by omega)
theorem C_begin (hp : p = 4 ∨ p = 14) (L : Lay M) (d : DrV M p G) (g : GdG G) : ∃ M', F_X2_begin p 24 M = some M' ∧ StV M' 24 (gPl G) (bgN G (tP G)) ∧ Wr [24, 25, 26, 27, 28, 29, 30] M M' := by
  obtain ⟨d1, d2, d3, d4, d5, d6, d7⟩ := d
  have hO := L.StO (a := 24) (Or.inl rfl)
  have hP := L.PlO hp
  obtain ⟨f1, e1, z1⟩ := F_fill (M := stI (stI (stI M 24 0 0) 24 1 0) 24 2 0) (v := 0) hO.2.2.1.1 (by omega)
  obtain ⟨f2, e2, z2⟩ := F_fill (M := stR (stI (stI (stI M 24 0 0) 24 1 0) 24 2 0) 26 f1) (v := 0) hO.2.2.2.2.2.2.1 (by omega)
  obtain ⟨f3, e3, z3⟩ := F_fill (M := stR (stR (stI (stI (stI M 24 0 0) 24 1 0) 24 2 0) 26 f1) 30 f2) (v := -1) hO.2.2.2.1.1 (by omega)
  obtain ⟨f4, e4, z4⟩ := F_fill (M := stR (stR (stR (stI (stI (stI M 24 0 0) 24 1 0) 24 2 0) 26 f1) 30 f2) 27 f3) (v := -1) hO.2.2.2.2.2.1.1 (by omega)
  generalize hA : stR (stR (stR (stR (stI (stI (stI M 24 0 0) 24 1 0) 24 2 0) 26 f1) 30 f2) 27 f3) 29 f4 = A at *
  have A1 : A.1 = M.1 := by rw [← hA]; rfl
  have AP : mP A = mP M := by rw [← hA]; rfl
  have LA : Lay A := by unfold Lay; rw [A1, AP]; exact L
  have c1 := cpI_8 (M := A) (a := p + 1) (b := 25) (by rw [A1]; exact hP.2.1.1) (by rw [A1]; exact hO.2.1.1)
  generalize hB : stR A 25 (va_cpy (mI A (p + 1)) (mI A 25) 0 0 8) = Bm at *
  have B1 : Bm.1 = M.1 := by rw [← hB]; exact A1
  have BP : mP Bm = mP M := by rw [← hB]; exact AP
  have LB : Lay Bm := by unfold Lay; rw [B1, BP]; exact L
  have c2 := cpI_8 (M := Bm) (a := p + 4) (b := 28) (by rw [B1]; exact hP.2.2.2.2.1.1) (by rw [B1]; exact hO.2.2.2.2.1.1)
  generalize hC : stR Bm 28 (va_cpy (mI Bm (p + 4)) (mI Bm 28) 0 0 8) = C at *
  have C1 : C.1 = M.1 := by rw [← hC]; exact B1
  have CP : mP C = mP M := by rw [← hC]; exact BP
  have LC : Lay C := by unfold Lay; rw [C1, CP]; exact L
  have aM : ∀ k, ¬ (24 ≤ k ∧ k ≤ 30) → mI A k = mI M k := fun k hk => by
    rw [← hA, mI_stRne (by omega), mI_stRne (by omega), mI_stRne (by omega), mI_stRne (by omega), mI_stne (by omega), mI_stne (by omega), mI_stne (by omega)]
  have v25 : ∀ h, h < 8 → mI C 25 h = mI M (p + 1) h := fun h hh => by
    rw [← hC, mI_stRne (by omega), ← hB, mI_stReq, cpy_lt hh, aM _ (by omega)]
  have v28 : ∀ h, h < 8 → mI C 28 h = mI M (p + 4) h := fun h hh => by
    rw [← hC, mI_stReq, cpy_lt hh, ← hB, mI_stRne (by omega), aM _ (by omega)]
  have vA : ∀ k, k ≠ 25 → k ≠ 28 → mI C k = mI A k := fun k h1 h2 => by rw [← hC, mI_stRne h2, ← hB, mI_stRne h1]
  have v24 : mI C 24 0 = 0 ∧ mI C 24 1 = 0 ∧ mI C 24 2 = 0 := by
    rw [vA 24 (by omega) (by omega), ← hA, mI_stRne (by omega), mI_stRne (by omega), mI_stRne (by omega), mI_stRne (by omega)]
    exact ⟨by rw [mI_sn (by omega), mI_sn (by omega), mI_se], by rw [mI_sn (by omega), mI_se], by rw [mI_se]⟩
  have v26 : ∀ h, h < 8 → mI C 26 h = 0 := fun h hh => by
    rw [vA 26 (by omega) (by omega), ← hA, mI_stRne (by omega), mI_stRne (by omega), mI_stRne (by omega), mI_stReq]; exact z1 h hh
  have v30 : ∀ h, h < 8 → mI C 30 h = 0 := fun h hh => by
    rw [vA 30 (by omega) (by omega), ← hA, mI_stRne (by omega), mI_stRne (by omega), mI_stReq]; exact z2 h hh
  have v27 : ∀ h, h < 8 → mI C 27 h = -1 := fun h hh => by
    rw [vA 27 (by omega) (by omega), ← hA, mI_stRne (by omega), mI_stReq]; exact z3 h hh
  have v29 : ∀ h, h < 8 → mI C 29 h = -1 := fun h hh => by
    rw [vA 29 (by omega) (by omega), ← hA, mI_stReq]; exact z4 h hh
  have wC : Wr [24, 25, 26, 27, 28, 29, 30] M C := by
    refine ⟨C1, by rw [← hC, ← hB, ← hA]; rfl, CP, by rw [← hC, ← hB, ← hA]; rfl, fun k hk => ?_⟩
    have hk' : ¬ (24 ≤ k ∧ k ≤ 30) := fun y => hk (by
      have : k = 24 ∨ k = 25 ∨ k = 26 ∨ k = 27 ∨ k = 28 ∨ k = 29 ∨ k = 30 := by omega
      rcases this with rfl | rfl | rfl | rfl | rfl | rfl | rfl <;> decide)
    rw [vA k (by omega) (by omega), aM k hk']
  have w0 : ∀ (m : Nat) (i : Nat), i < 8 → hOf (fun _ => (-1 : Int32)) i m = -1 := by
    intro m i hi
    induction m with
    | zero => rfl
    | succ m ih =>
      show (if hOf (fun _ => (-1 : Int32)) i m ≠ -1 then hOf (fun _ => (-1 : Int32)) i m else if (-1 : Int32) = nI i then nI m else -1) = -1
      rw [if_neg (fun y => y ih), if_neg (fun y => nI_nm1 (by omega) y.symm)]
  have st0 : StV C 24 (gPl G) (bgN G 0) := by
    refine ⟨LC.StO (Or.inl rfl), v24.1, v24.2.1, v24.2.2, fun h hh => ?_, fun i hi => ?_⟩
    · have hh : h < tH G := hh
      exact ⟨by rw [v25 h (by omega)]; exact (d3 h hh).1, v26 h (by omega), v27 h (by omega)⟩
    · have hi : i < tP G := hi
      exact ⟨by rw [v28 i (by omega)]; exact (d4 i hi).1, by rw [v29 i (by omega)]; exact (w0 _ _ (by omega)).symm, v30 i (by omega)⟩
  obtain ⟨E, eE, sE, wE⟩ := loop_mm (step := fun z : Int32 × Mem => F_X2_begin_s79 p 24 z.1 z.2) (fun i M' => (nI i, M')) (fun M' => M') (tP G) (fun i M' => StV M' 24 (gPl G) (bgN G i) ∧ Wr [24, 25, 26, 27, 28, 29, 30] M M') (M := C) ⟨st0, wC⟩ (by
    rintro i M' hi ⟨s', w'⟩
    have L' := L.wr w'
    have p1 : mI M' p 1 = nI (tP G) := by rw [w'.2.2.2.2 p (by rcases hp with rfl | rfl <;> decide)]; exact d1.2.1
    have p6 : mI M' (p + 6) i = tHom G i := by rw [w'.2.2.2.2 (p + 6) (by rcases hp with rfl | rfl <;> decide)]; exact (d4 i hi).2.2
    have t6 : M'.1[24]? = some (6, 0) := (L'.StO (Or.inl rfl)).1
    rcases (g.2.2.1 i hi).2.2 with z | ⟨x, hx, z⟩
    · refine ⟨M', ?_, by rw [bg_s, if_pos z]; exact s', w'⟩
      unfold F_X2_begin_s79
      dsimp only
      rw [P_f L' hp, ob_t, p1, if_neg (nI_ge hi (by omega)), P_8 L' hp, ob_t, P_a L' hp (by omega) (by omega) (by omega), ob_t, p6, if_pos z, nI_1]
    · have fr := bg_free g hi hx z
      obtain ⟨M2, e2, s2, w2⟩ := F_settle s' (gp_g g) (show x < gH (gPl G) from hx) (show i < gN (gPl G) from hi) fr.1 (fun k hk => fr.2 k hk)
      refine ⟨M2, ?_, ?_, w'.trans (w2.mono (by decide))⟩
      · unfold F_X2_begin_s79
        dsimp only
        rw [P_f L' hp, ob_t, p1, if_neg (nI_ge hi (by omega)), P_8 L' hp, ob_t, P_a L' hp (by omega) (by omega) (by omega), ob_t, p6, if_neg (by rw [z]; exact nI_nm1 (by omega)), ob_t, P_a L' hp (by omega) (by omega) (by omega), ob_t, p6, z, ckO_t t6, e2, ob_t, nI_1]
      · rw [bg_s, if_neg (by rw [z]; exact nI_nm1 (by omega)), z, nI_clamp (by omega)]; exact s2) (by
    rintro M' ⟨s', w'⟩
    have L' := L.wr w'
    have p1 : mI M' p 1 = nI (tP G) := by rw [w'.2.2.2.2 p (by rcases hp with rfl | rfl <;> decide)]; exact d1.2.1
    unfold F_X2_begin_s79
    dsimp only
    rw [P_f L' hp, ob_t, p1, if_pos (nI_le (Nat.le_refl _) (by omega))])
  refine ⟨E, ?_, sE, wE⟩
  have eE' : loop (fun z : Int32 × Mem => F_X2_begin_s79 p 24 z.1 z.2) ((0 : Int32), C) = some E := eE
  have q3 : ∀ X : Mem, X.1 = M.1 → mP X = mP M → gP X 6 24 3 = some 25 := fun X a b => gP_t (by rw [a]; exact hO.1) (by rw [b]; exact hO.2.1.2)
  have q4 : ∀ X : Mem, X.1 = M.1 → mP X = mP M → gP X 6 24 4 = some 26 := fun X a b => gP_t (by rw [a]; exact hO.1) (by rw [b]; exact hO.2.2.1.2)
  have q5 : ∀ X : Mem, X.1 = M.1 → mP X = mP M → gP X 6 24 5 = some 27 := fun X a b => gP_t (by rw [a]; exact hO.1) (by rw [b]; exact hO.2.2.2.1.2)
  have q6 : ∀ X : Mem, X.1 = M.1 → mP X = mP M → gP X 6 24 6 = some 28 := fun X a b => gP_t (by rw [a]; exact hO.1) (by rw [b]; exact hO.2.2.2.2.1.2)
  have q7 : ∀ X : Mem, X.1 = M.1 → mP X = mP M → gP X 6 24 7 = some 29 := fun X a b => gP_t (by rw [a]; exact hO.1) (by rw [b]; exact hO.2.2.2.2.2.1.2)
  have q8 : ∀ X : Mem, X.1 = M.1 → mP X = mP M → gP X 6 24 8 = some 30 := fun X a b => gP_t (by rw [a]; exact hO.1) (by rw [b]; exact hO.2.2.2.2.2.2.2)
  have s0 : pI M 6 24 0 (0 : Int32) = some (stI M 24 0 0) := pI_t hO.1
  have s1 : pZ (stI M 24 0 0) 6 24 1 (0 : Int32) = some (stI (stI M 24 0 0) 24 1 0) := pZ_t (Or.inl rfl) hO.1
  have s2 : pI (stI (stI M 24 0 0) 24 1 0) 6 24 2 (0 : Int32) = some (stI (stI (stI M 24 0 0) 24 1 0) 24 2 0) := pI_t (M := stI (stI M 24 0 0) 24 1 0) hO.1
  unfold F_X2_begin
  rw [s0, ob_t, s1, ob_t, s2, ob_t, q4 (stI (stI (stI M 24 0 0) 24 1 0) 24 2 0) rfl rfl, ob_t, e1, ob_t, q8 (stR (stI (stI (stI M 24 0 0) 24 1 0) 24 2 0) 26 f1) rfl rfl, ob_t, e2, ob_t, q5 (stR (stR (stI (stI (stI M 24 0 0) 24 1 0) 24 2 0) 26 f1) 30 f2) rfl rfl, ob_t, e3, ob_t, q7 (stR (stR (stR (stI (stI (stI M 24 0 0) 24 1 0) 24 2 0) 26 f1) 30 f2) 27 f3) rfl rfl, ob_t, e4, ob_t, P_3 LA hp, ob_t, q3 A A1 AP, ob_t, c1, ob_t, P_6 LB hp, ob_t, q6 Bm B1 BP, ob_t, c2, ob_t, eE', ob_t]
end
