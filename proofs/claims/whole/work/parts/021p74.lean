/-! ===== new cells ===== -/
theorem tg_nw {M : Mem} {k : Nat} {t t' : mT} {n : Nat} (h : M.1[k]? = some t) : (nwM M t' n).1[k]? = some t := by
  have hk : k < M.1.length := (List.getElem?_eq_some_iff.mp h).1
  show (M.1 ++ [t'])[k]? = some t
  rw [List.getElem?_append_left hk]; exact h
theorem tg_nw' {M : Mem} {t : mT} {n : Nat} : (nwM M t n).1[M.1.length]? = some t := by
  show (M.1 ++ [t])[M.1.length]? = some t
  rw [List.getElem?_append_right (Nat.le_refl _)]; simp
theorem len_nw {M : Mem} {t : mT} {n : Nat} : (nwM M t n).1.length = M.1.length + 1 := by
  show (M.1 ++ [t]).length = _; simp
theorem mI_nw {M : Mem} {t : mT} {n k : Nat} (h : k < M.1.length) : mI (nwM M t n) k = mI M k := by
  show rw1 M.2.1 M.1.length (fun _ => 0) k = M.2.1 k
  unfold rw1; rw [if_neg (by omega)]
theorem mP_nw {M : Mem} {t : mT} {n k : Nat} (h : k < M.1.length) : mP (nwM M t n) k = mP M k := by
  show rw1 M.2.2.2.1 M.1.length (fun _ => none) k = M.2.2.2.1 k
  unfold rw1; rw [if_neg (by omega)]
theorem mL_nw {M : Mem} {t : mT} {n k : Nat} (h : k < M.1.length) : mL (nwM M t n) k = mL M k := by
  show rw1 M.2.2.1 M.1.length (fun _ => 0) k = M.2.2.1 k
  unfold rw1; rw [if_neg (by omega)]
theorem mS_nw {M : Mem} {t : mT} {n : Nat} : mS (nwM M t n) = mS M + n := rfl
theorem mI_nw' {M : Mem} {t : mT} {n : Nat} : mI (nwM M t n) M.1.length = fun _ => 0 := by
  show rw1 M.2.1 M.1.length (fun _ => 0) M.1.length = _
  unfold rw1; rw [if_pos rfl]
theorem mP_nw' {M : Mem} {t : mT} {n : Nat} : mP (nwM M t n) M.1.length = fun _ => none := by
  show rw1 M.2.2.2.1 M.1.length (fun _ => none) M.1.length = _
  unfold rw1; rw [if_pos rfl]
theorem nO_t {M : Mem} {ci n : Nat} (h1 : M.1.length + 1 ≤ CLM) (h2 : mS M + n ≤ SLM) : nO M ci n = some (nwM M (ci, 0) n) := if_pos ⟨h1, h2⟩
theorem nA_t {M : Mem} {kd n : Nat} (hn : n < 2 ^ 31) (h1 : M.1.length + 1 ≤ CLM) (h2 : mS M + n ≤ SLM) : nA M kd (nI n) = some (nwM M (kd, n) n) := by
  unfold nA; rw [nI_clamp hn, if_pos ⟨nI_pos hn, h1, h2⟩]
/-- a row of ints is filled -/
theorem F_fill {M : Mem} {a n : Nat} {v : Int32} (ha : M.1[a]? = some (100, n)) (hn : n < 2 ^ 31) : ∃ f, F_J7_fill_53178 a v M = some (stR M a f) ∧ (∀ i, i < n → f i = v) := by
  obtain ⟨M1, e1, f1, h1, h2⟩ := loop_mm (step := fun z : Int32 × Mem => F_J7_fill_53178_s5 a v (nI n) z.1 z.2) (fun i M' => (nI i, M')) (fun M' => M') n (fun i M' => ∃ f, M' = stR M a f ∧ ∀ j, j < i → f j = v) (M := M) ⟨mI M a, by
    unfold stR; show M = (M.1, rw1 M.2.1 a (M.2.1 a), M.2.2)
    have : rw1 M.2.1 a (M.2.1 a) = M.2.1 := by
      funext x; unfold rw1; split
      · rename_i e; rw [e]
      · rfl
    rw [this], fun j hj => by omega⟩ (by
    rintro i M' hi ⟨f, rfl, hf⟩
    refine ⟨stR M a (upg f i v), ?_, upg f i v, rfl, fun j hj => ?_⟩
    · unfold F_J7_fill_53178_s5
      dsimp only
      rw [if_neg (nI_ge hi hn), sI_t (M := stR M a f) ha hi hn, ob_t, nI_1]
      have : stI (stR M a f) a i v = stR M a (upg f i v) := by
        rw [stI_R, mI_stReq]
        unfold stR
        have : rw1 (rw1 M.2.1 a f) a (upg f i v) = rw1 M.2.1 a (upg f i v) := by
          funext x; unfold rw1; split <;> rfl
        show (M.1, rw1 (rw1 M.2.1 a f) a (upg f i v), M.2.2) = _
        rw [this]
      rw [this]
    · by_cases e : j = i
      · subst e; rw [upg_eq]
      · rw [upg_ne e]; exact hf j (by omega)) (by
    rintro M' ⟨f, rfl, hf⟩
    unfold F_J7_fill_53178_s5
    dsimp only
    rw [if_pos (nI_le (Nat.le_refl n) hn)])
  refine ⟨f1, ?_, h2⟩
  unfold F_J7_fill_53178
  have e1' : loop (fun z : Int32 × Mem => F_J7_fill_53178_s5 a v (nI n) z.1 z.2) ((0 : Int32), M) = some M1 := e1
  rw [alen_t ha, ob_t, e1', ob_t, h1]
/-- all below a is kept; the cells behind are new -/
def Ext (M M' : Mem) (a : Nat) (T : List mT) (n : Nat) : Prop := M'.1 = M.1 ++ T ∧ mS M' = mS M + n ∧ ∀ k, k < a → mI M' k = mI M k ∧ mP M' k = mP M k ∧ mL M' k = mL M k
theorem Ext.rfl' {M : Mem} {a : Nat} : Ext M M a [] 0 := ⟨by simp, rfl, fun _ _ => ⟨rfl, rfl, rfl⟩⟩
theorem Ext.trans {M M' M'' : Mem} {a b : Nat} {T T' : List mT} {n n' : Nat} (h : Ext M M' a T n) (h' : Ext M' M'' b T' n') (hab : a ≤ b) : Ext M M'' a (T ++ T') (n + n') :=
  ⟨by rw [h'.1, h.1, List.append_assoc], by rw [h'.2.1, h.2.1]; omega, fun k hk => by
    have a1 := h.2.2 k hk; have a2 := h'.2.2 k (by omega)
    exact ⟨a2.1.trans a1.1, a2.2.1.trans a1.2.1, a2.2.2.trans a1.2.2⟩⟩
theorem Ext.tg {M M' : Mem} {a n k : Nat} {T : List mT} {t : mT} (h : Ext M M' a T n) (hk : M.1[k]? = some t) : M'.1[k]? = some t := by
  rw [h.1, List.getElem?_append_left (List.getElem?_eq_some_iff.mp hk).1]; exact hk
/-- an array of the object at a: its cell, its pointer -/
theorem obj_arr {M : Mem} {a ci kd n j : Nat} (ht : M.1[a]? = some (ci, 0)) (hn : n < 2 ^ 31) (h1 : M.1.length + 1 ≤ CLM) (h2 : mS M + n ≤ SLM) :
    nA M kd (nI n) = some (nwM M (kd, n) n) ∧ pQ (nwM M (kd, n) n) ci a j (some M.1.length) = some (stP (nwM M (kd, n) n) a j (some M.1.length)) ∧ Ext M (stP (nwM M (kd, n) n) a j (some M.1.length)) a [(kd, n)] n ∧ (∀ i, mP (stP (nwM M (kd, n) n) a j (some M.1.length)) a i = if i = j then some M.1.length else mP M a i) ∧ mI (stP (nwM M (kd, n) n) a j (some M.1.length)) a = mI M a ∧ mI (stP (nwM M (kd, n) n) a j (some M.1.length)) M.1.length = (fun _ => 0) ∧ (kd = 104 → ∀ i, mP (stP (nwM M (kd, n) n) a j (some M.1.length)) M.1.length i = none) ∧ ∀ k, a < k → k < M.1.length → mI (stP (nwM M (kd, n) n) a j (some M.1.length)) k = mI M k ∧ mP (stP (nwM M (kd, n) n) a j (some M.1.length)) k = mP M k := by
  have ha : a < M.1.length := (List.getElem?_eq_some_iff.mp ht).1
  refine ⟨nA_t hn h1 h2, pQ_t (tg_nw ht), ⟨rfl, rfl, fun k hk => ⟨?_, ?_, ?_⟩⟩, fun i => ?_, ?_, ?_, fun _ i => ?_, fun k hk1 hk2 => ⟨?_, ?_⟩⟩
  · rw [mI_stP, mI_nw (by omega)]
  · funext i; rw [mP_stP, if_neg (by omega), mP_nw (by omega)]
  · rw [mL_stP, mL_nw (by omega)]
  · rw [mP_stP, mP_nw ha]; simp
  · rw [mI_stP, mI_nw ha]
  · rw [mI_stP, mI_nw']
  · rw [mP_stP, if_neg (by omega), mP_nw']
  · rw [mI_stP, mI_nw hk2]
  · funext i; rw [mP_stP, if_neg (by omega), mP_nw hk2]
theorem F_st_init {M : Mem} {a : Nat} (ht : M.1[a]? = some (6, 0)) (hl : M.1.length = a + 1) (h1 : a + 7 ≤ CLM) (h2 : mS M + 48 ≤ SLM) : ∃ M', F_X6_init a M = some M' ∧ StO M' a ∧ Ext M M' a [(100, 8), (100, 8), (100, 8), (100, 8), (100, 8), (100, 8)] 48 ∧ mI M' a 1 = 0 := by
  have q8 : (8 : Int32) = nI 8 := rfl
  unfold F_X6_init
  rw [pI_t ht, ob_t, pZ_t (Or.inl rfl) (M := stI M a 0 0) ht, ob_t, pI_t (M := stI (stI M a 0 0) a 1 0) ht, ob_t]
  have x0 : Ext M (stI (stI (stI M a 0 0) a 1 0) a 2 0) a [] 0 := ⟨by show M.1 = M.1 ++ []; simp, rfl, fun k hk => ⟨by rw [mI_stne (by omega), mI_stne (by omega), mI_stne (by omega)], rfl, rfl⟩⟩
  have z0 : mI (stI (stI (stI M a 0 0) a 1 0) a 2 0) a 1 = 0 := by rw [mI_steq, upg_ne (by omega), mI_steq, upg_eq]
  generalize stI (stI (stI M a 0 0) a 1 0) a 2 0 = M5 at *
  have t5 := x0.tg ht
  have l5 : M5.1.length = a + 1 := by rw [x0.1]; simp [hl]
  have s5 : mS M5 = mS M := x0.2.1
  obtain ⟨e1, f1, y1, p1, i1, -, -, -⟩ := obj_arr (kd := 100) (n := 8) (j := 3) t5 (by omega) (by omega) (by omega)
  rw [q8, e1, ob_t, f1, ob_t]
  have x1 := x0.trans y1 (Nat.le_refl _)
  have c1 : M5.1.length = a + 1 := l5
  generalize stP (nwM M5 (100, 8) 8) a 3 (some M5.1.length) = M9 at *
  have t9 := x1.tg ht
  have l9 : M9.1.length = a + 2 := by rw [x1.1]; simp [hl]
  have s9 := x1.2.1
  obtain ⟨e2, f2, y2, p2, i2, -, -, -⟩ := obj_arr (kd := 100) (n := 8) (j := 4) t9 (by omega) (by omega) (by omega)
  rw [e2, ob_t, f2, ob_t]
  have x2 := x1.trans y2 (Nat.le_refl _)
  generalize stP (nwM M9 (100, 8) 8) a 4 (some M9.1.length) = M13 at *
  have t13 := x2.tg ht
  have l13 : M13.1.length = a + 3 := by rw [x2.1]; simp [hl]
  have s13 := x2.2.1
  obtain ⟨e3, f3, y3, p3, i3, -, -, -⟩ := obj_arr (kd := 100) (n := 8) (j := 5) t13 (by omega) (by omega) (by omega)
  rw [e3, ob_t, f3, ob_t]
  have x3 := x2.trans y3 (Nat.le_refl _)
  generalize stP (nwM M13 (100, 8) 8) a 5 (some M13.1.length) = M17 at *
  have t17 := x3.tg ht
  have l17 : M17.1.length = a + 4 := by rw [x3.1]; simp [hl]
  have s17 := x3.2.1
  obtain ⟨e4, f4, y4, p4, i4, -, -, -⟩ := obj_arr (kd := 100) (n := 8) (j := 6) t17 (by omega) (by omega) (by omega)
  rw [e4, ob_t, f4, ob_t]
  have x4 := x3.trans y4 (Nat.le_refl _)
  generalize stP (nwM M17 (100, 8) 8) a 6 (some M17.1.length) = M21 at *
  have t21 := x4.tg ht
  have l21 : M21.1.length = a + 5 := by rw [x4.1]; simp [hl]
  have s21 := x4.2.1
  obtain ⟨e5, f5, y5, p5, i5, -, -, -⟩ := obj_arr (kd := 100) (n := 8) (j := 7) t21 (by omega) (by omega) (by omega)
  rw [e5, ob_t, f5, ob_t]
  have x5 := x4.trans y5 (Nat.le_refl _)
  generalize stP (nwM M21 (100, 8) 8) a 7 (some M21.1.length) = M25 at *
  have t25 := x5.tg ht
  have l25 : M25.1.length = a + 6 := by rw [x5.1]; simp [hl]
  have s25 := x5.2.1
  obtain ⟨e6, f6, y6, p6, i6, -, -, -⟩ := obj_arr (kd := 100) (n := 8) (j := 8) t25 (by omega) (by omega) (by omega)
  rw [e6, ob_t, f6, ob_t]
  have x6 := x5.trans y6 (Nat.le_refl _)
  generalize stP (nwM M25 (100, 8) 8) a 8 (some M25.1.length) = M29 at *
  have t29 := x6.tg ht
  rw [l5] at p1; rw [l9] at p2; rw [l13] at p3; rw [l17] at p4; rw [l21] at p5; rw [l25] at p6
  have hp : mP M29 a 3 = some (a + 1) ∧ mP M29 a 4 = some (a + 2) ∧ mP M29 a 5 = some (a + 3) ∧ mP M29 a 6 = some (a + 4) ∧ mP M29 a 7 = some (a + 5) ∧ mP M29 a 8 = some (a + 6) := by
    simp [p6, p5, p4, p3, p2, p1]
  have hg : ∀ j, j < 6 → M29.1[a + 1 + j]? = some (100, 8) := by
    intro j hj
    rw [x6.1, List.getElem?_append_right (by omega), hl]
    have : j = 0 ∨ j = 1 ∨ j = 2 ∨ j = 3 ∨ j = 4 ∨ j = 5 := by omega
    rcases this with rfl | rfl | rfl | rfl | rfl | rfl <;> simp
  have z6 : mI M29 a 1 = 0 := by rw [i6, i5, i4, i3, i2, i1]; exact z0
  rw [gP_t t29 hp.2.2.1, ob_t]
  obtain ⟨fa, g1, -⟩ := F_fill (v := -1) (hg 2 (by omega)) (by omega)
  have g1' : F_J7_fill_53178 (a + 3) (-1) M29 = some (stR M29 (a + 3) fa) := g1
  rw [g1', ob_t, gP_t (M := stR M29 (a + 3) fa) t29 hp.2.2.2.2.1, ob_t]
  obtain ⟨fb, g2, -⟩ := F_fill (M := stR M29 (a + 3) fa) (v := -1) (hg 4 (by omega)) (by omega)
  have g2' : F_J7_fill_53178 (a + 5) (-1) (stR M29 (a + 3) fa) = some (stR (stR M29 (a + 3) fa) (a + 5) fb) := g2
  rw [g2', ob_t]
  refine ⟨_, rfl, ⟨t29, ⟨hg 0 (by omega), hp.1⟩, ⟨hg 1 (by omega), hp.2.1⟩, ⟨hg 2 (by omega), hp.2.2.1⟩, ⟨hg 3 (by omega), hp.2.2.2.1⟩, ⟨hg 4 (by omega), hp.2.2.2.2.1⟩, ⟨hg 5 (by omega), hp.2.2.2.2.2⟩⟩, ⟨x6.1, x6.2.1, fun k hk => ?_⟩, ?_⟩
  · rw [mI_stRne (by omega), mI_stRne (by omega)]; exact x6.2.2 k hk
  · rw [mI_stRne (by omega), mI_stRne (by omega)]; exact z6
