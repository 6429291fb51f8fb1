/-! ===== the sill to feel next: the reference, both ===== -/
section
variable {M M' : Mem} {p m u h n z d i : Nat} {g : Pg} {s s' : Sg} {D : Int} {L : List Sg} {E : List Se} {I : Option (Sg × List Sg × List Se)} {R : Nat → Int32} {T : List Nat} {f : Int32}
theorem cnt_j {f : Nat → Bool} {k : Nat} : ∀ n, k < cnt f n → ∃ j, j < n ∧ f j = true ∧ cnt f j = k
  | 0 => fun y => absurd y (Nat.not_lt_zero _)
  | n + 1 => fun y => by
    rw [cnt_s] at y
    by_cases e : k < cnt f n
    · obtain ⟨j, a, b⟩ := cnt_j n e; exact ⟨j, by omega, b⟩
    · by_cases q : f n = true
      · rw [if_pos q] at y; exact ⟨n, by omega, q, by omega⟩
      · rw [if_neg q] at y; omega
theorem cnt_m {f : Nat → Bool} {j : Nat} (h : f j = true) : ∀ n, j < n → cnt f j < cnt f n
  | 0 => fun y => absurd y (Nat.not_lt_zero _)
  | n + 1 => fun y => by
    rw [cnt_s]
    by_cases e : j = n
    · subst e; rw [if_pos h]; omega
    · have := cnt_m h n (by omega)
      split <;> omega
theorem MZu.rowL {k : Nat} (m : MZu M g s) (hk : k < 480) : ∃ M', loop (fun z : Int32 × Mem => F_X9_next_s45 67 (nI k) z.1 z.2) ((0 : Int32), M) = some M' ∧ Wr [93] M M' ∧ (∀ h, h < gH g → mI M' 93 (8 * k + h) = mI M 92 h) ∧ ∀ i, i < 8 * k → mI M' 93 i = mI M 93 i := by
  have g1 := m.b.gp.1
  exact loop_mm (step := fun z : Int32 × Mem => F_X9_next_s45 67 (nI k) z.1 z.2) (fun i M' => (nI i, M')) (fun M' => M') (gH g) (fun j M' => Wr [93] M M' ∧ (∀ h, h < j → mI M' 93 (8 * k + h) = mI M 92 h) ∧ ∀ i, i < 8 * k → mI M' 93 i = mI M 93 i) (M := M) ⟨Wr.rfl', fun h z => by omega, fun _ _ => rfl⟩ (by
    rintro j M' hj ⟨w', a1, a2⟩
    have m' := (m.wr w' (by decide)).1
    refine ⟨stI M' 93 (8 * k + j) (mI M 92 j), ?_, w'.st (by decide), fun h hh => ?_, fun i hi => ?_⟩
    · unfold F_X9_next_s45
      dsimp only
      rw [m'.b.nH, ob_t, if_neg (nI_ge hj (show gH g < 2 ^ 31 by omega)), Lp_67_54 m'.lay, ob_t, Lp_67_53 m'.lay, ob_t, La_92 m'.lay (by omega), ob_t, wr_mI w' (by decide), show (8 : Int32) * nI k = nI (8 * k) from nI_mul (a := 8), nI_add, Lw_93 m'.lay (by omega), ob_t, nI_1]
    · rw [mI_steq]
      by_cases z : h = j
      · subst z; rw [upg_eq]
      · rw [upg_ne (by omega)]; exact a1 h (by omega)
    · rw [mI_steq, upg_ne (by omega)]; exact a2 i hi) (by
    rintro M' ⟨w', -⟩
    unfold F_X9_next_s45
    dsimp only
    rw [((m.wr w' (by decide)).1).b.nH, ob_t, if_pos (nI_le (Nat.le_refl (gH g)) (show gH g < 2 ^ 31 by omega))])
theorem MZu.guessL (m : MZu M g s) (hs : SeM M (mI M 67 51) 91 E) (hE : ∀ e, e ∈ E → e.1 < gH g ∧ e.2.1 ≤ 20) : ∃ r, loop (fun z : Int32 × Int32 × Mem => F_X9_next_s20 67 z.1 z.2.1 z.2.2) ((0 : Int32), (0 : Int32), M) = some r ∧ r.1 = nI (cnt (fiB g s E) (60 * gN g)) ∧ MZu r.2 g s ∧ QW M r.2 ∧ ∀ j, j < 60 * gN g → fiB g s E j = true → ∀ h, h < gH g → mI r.2 93 (8 * cnt (fiB g s E) j + h) = wsU g s (j / 60) (j % 60 + 1) h := by
  have g1 := m.b.gp.1
  have g2 := m.b.gp.2.1
  refine loop_ex (step := fun z : Int32 × Int32 × Mem => F_X9_next_s20 67 z.1 z.2.1 z.2.2) (fun i z => z.1 = nI (cnt (fiB g s E) i) ∧ z.2.1 = nI i ∧ MZu z.2.2 g s ∧ QW M z.2.2 ∧ ∀ j, j < i → fiB g s E j = true → ∀ h, h < gH g → mI z.2.2 93 (8 * cnt (fiB g s E) j + h) = wsU g s (j / 60) (j % 60 + 1) h) _ (60 * gN g) ?_ ⟨rfl, rfl, m, QW.rfl', fun j hj => by omega⟩
  rintro i ⟨a, j, M1⟩ hi ⟨z1, z3, m1, w1, z4⟩
  dsimp only at z1 z3 m1 w1 z4
  subst z1 z3
  unfold F_X9_next_s20
  dsimp only
  rw [m1.b.nN, ob_t, show (60 : Int32) * nI (gN g) = nI (60 * gN g) from nI_mul (a := 60)]
  by_cases c : i = 60 * gN g
  · subst c
    rw [if_pos (nI_le (Nat.le_refl _) (by omega))]
    exact Or.inl ⟨_, rfl, rfl, m1, w1, z4⟩
  · have hi' : i < 60 * gN g := by omega
    refine Or.inr ⟨hi', ?_⟩
    obtain ⟨⟨r, M2⟩, e2, m2, w2, k2, h2⟩ := M_guess (u := i / 60) (w := i % 60) m1 (hs.qw w1) hE (by omega) (by omega)
    dsimp only at m2 w2 k2 h2
    rw [show 60 * (i / 60) + i % 60 = i by omega] at e2
    have ce : cnt (fiB g s E) (i + 1) = if fiB g s E i = true then cnt (fiB g s E) i + 1 else cnt (fiB g s E) i := rfl
    rw [if_neg (nI_ge hi' (by omega)), Lc_67 m1.lay, e2, bd2_t]
    rcases h2 with ⟨y1, y2, y3⟩ | ⟨y1, y2⟩
    · have f1 : fiB g s E i = true := fiB_i.mpr y2
      have cl := cnt_n (f := fiB g s E) i
      obtain ⟨M3, e3, w3, q1, q2⟩ := m2.rowL (k := cnt (fiB g s E) i) (by omega)
      have m3 := m2.wr w3 (by decide)
      rw [y1, if_neg (by decide), e3, ob_t, nI_1, nI_1]
      rw [if_pos f1] at ce
      refine ⟨_, rfl, by rw [ce], rfl, m3.1, (w1.trans w2).trans m3.2, fun j hj fj h hh => ?_⟩
      dsimp only
      by_cases e : j = i
      · subst e
        rw [q1 h hh, y3 h hh]; rfl
      · have := cnt_m fj i (by omega)
        rw [q2 _ (by omega), k2]
        exact z4 j (by omega) fj h hh
    · have f0 : fiB g s E i = false := by
        cases e : fiB g s E i
        · rfl
        · exact absurd (fiB_i.mp e) y2
      rw [y1, if_pos rfl, nI_1]
      rw [f0, if_neg (by decide)] at ce
      refine ⟨_, rfl, by rw [ce], rfl, m2, w1.trans w2, fun j hj fj h hh => ?_⟩
      dsimp only
      by_cases e : j = i
      · subst e; rw [f0] at fj; cases fj
      · rw [k2]; exact z4 j (by omega) fj h hh
noncomputable def tvB (V : Nat → Int32) (i v : Nat) : Bool := by classical exact decide (∃ k, k < i ∧ V k = nI v)
theorem tvB_i {V : Nat → Int32} {v : Nat} : tvB V i v = true ↔ ∃ k, k < i ∧ V k = nI v := by unfold tvB; simp
theorem M_unl1 {k : Nat} (hL : Lay M) (hh : h < 8) (hk : k < 480) : ∃ r, loop (fun z : Int32 × Int32 => F_X9_next_s123 67 (nI h) (nI k) M z.1 z.2) ((1 : Int32), (0 : Int32)) = some r ∧ ((r = 1 ∧ ∀ j, j < k → mI M 93 (8 * k + h) ≠ mI M 93 (8 * j + h)) ∨ (r = 0 ∧ ∃ j, j < k ∧ mI M 93 (8 * k + h) = mI M 93 (8 * j + h))) := by
  refine loop_ex (step := fun z : Int32 × Int32 => F_X9_next_s123 67 (nI h) (nI k) M z.1 z.2) (fun i z => z.2 = nI i ∧ ((z.1 = 1 ∧ ∀ j, j < i → mI M 93 (8 * k + h) ≠ mI M 93 (8 * j + h)) ∨ (z.1 = 0 ∧ ∃ j, j < i ∧ mI M 93 (8 * k + h) = mI M 93 (8 * j + h)))) _ k ?_ ⟨rfl, Or.inl ⟨rfl, fun j hj => by omega⟩⟩
  rintro i ⟨a, j⟩ hi ⟨z1, z2⟩
  dsimp only at z1 z2
  subst z1
  unfold F_X9_next_s123
  dsimp only
  by_cases c : i = k
  · subst c
    rw [if_pos (nI_le (Nat.le_refl _) (by omega))]
    exact Or.inl ⟨_, rfl, z2⟩
  · have hi' : i < k := by omega
    rw [if_neg (nI_ge hi' (by omega))]
    rcases z2 with ⟨x1, x2⟩ | ⟨x1, j, x2, x3⟩
    · refine Or.inr ⟨hi', ?_⟩
      rw [x1, if_neg (by decide), Lp_67_54 hL, ob_t, show (8 : Int32) * nI k = nI (8 * k) from nI_mul (a := 8), nI_add, La_93 hL (by omega), ob_t, ob_t, show (8 : Int32) * nI i = nI (8 * i) from nI_mul (a := 8), nI_add, La_93 hL (by omega), ob_t, nI_1]
      by_cases q : mI M 93 (8 * k + h) = mI M 93 (8 * i + h)
      · rw [if_pos q]
        exact ⟨_, rfl, rfl, Or.inr ⟨rfl, i, by omega, q⟩⟩
      · rw [if_neg q]
        refine ⟨_, rfl, rfl, Or.inl ⟨rfl, fun j hj => ?_⟩⟩
        by_cases e : j = i
        · subst e; exact q
        · exact x2 j (by omega)
    · rw [x1, if_pos rfl]
      exact Or.inl ⟨_, rfl, Or.inr ⟨rfl, j, by omega, x3⟩⟩
theorem M_unl {k : Nat} (hL : Lay M) (hh : h < 8) (hk : k ≤ 480) (hv : ∀ j, j < k → ∃ w, w < 100 ∧ mI M 93 (8 * j + h) = nI w) : loop (fun z : Int32 × Int32 => F_X9_next_s111 67 (nI k) (nI h) M z.1 z.2) ((0 : Int32), (0 : Int32)) = some (nI (cnt (tvB (fun j => mI M 93 (8 * j + h)) k) 100)) := by
  obtain ⟨r, e, q⟩ := loop_ex (step := fun z : Int32 × Int32 => F_X9_next_s111 67 (nI k) (nI h) M z.1 z.2) (fun i z => z.1 = nI (cnt (tvB (fun j => mI M 93 (8 * j + h)) i) 100) ∧ z.2 = nI i) (fun r => r = nI (cnt (tvB (fun j => mI M 93 (8 * j + h)) k) 100)) k (by
    rintro i ⟨a, j⟩ hi ⟨z1, z2⟩
    dsimp only at z1 z2
    subst z1 z2
    unfold F_X9_next_s111
    dsimp only
    by_cases c : i = k
    · subst c
      rw [if_pos (nI_le (Nat.le_refl _) (by omega))]
      exact Or.inl ⟨_, rfl, rfl⟩
    · have hi' : i < k := by omega
      refine Or.inr ⟨hi', ?_⟩
      obtain ⟨r, e2, q2⟩ := M_unl1 (k := i) hL hh (by omega)
      obtain ⟨w, hw, ew⟩ := hv i hi'
      rw [if_neg (nI_ge hi' (by omega)), e2, ob_t]
      unfold F_X9_next_j177_111
      have ce := cnt_or (f := tvB (fun j => mI M 93 (8 * j + h)) i) (f' := fun v => if v < 100 then tvB (fun j => mI M 93 (8 * j + h)) (i + 1) v else tvB (fun j => mI M 93 (8 * j + h)) i v) (w := w) (fun v => by
        by_cases v1 : v < 100
        · rw [if_pos v1, tvB_i, tvB_i]
          constructor
          · rintro ⟨j, j1, j2⟩
            by_cases e : j = i
            · subst e
              rw [ew] at j2
              exact Or.inr ((nI_eq (by omega) (by omega)).mp j2).symm
            · exact Or.inl ⟨j, by omega, j2⟩
          · rintro (⟨j, j1, j2⟩ | y)
            · exact ⟨j, by omega, j2⟩
            · exact ⟨i, by omega, by rw [ew, y]⟩
        · rw [if_neg v1]
          exact ⟨Or.inl, fun y => y.resolve_right (by omega)⟩) 100
      rw [cnt_c (f := fun v => if v < 100 then tvB (fun j => mI M 93 (8 * j + h)) (i + 1) v else tvB (fun j => mI M 93 (8 * j + h)) i v) (f' := tvB (fun j => mI M 93 (8 * j + h)) (i + 1)) 100 (fun v hv => by rw [if_pos hv])] at ce
      rcases q2 with ⟨x1, x2⟩ | ⟨x1, j, x2, x3⟩
      · have tf : tvB (fun j => mI M 93 (8 * j + h)) i w = false := by
          cases q : tvB (fun j => mI M 93 (8 * j + h)) i w
          · rfl
          · obtain ⟨j, j1, j2⟩ := tvB_i.mp q
            exact absurd (ew.trans j2.symm) (x2 j j1)
        rw [if_pos ⟨hw, tf⟩] at ce
        rw [x1, if_neg (by decide), nI_1, nI_1]
        exact ⟨_, rfl, by rw [ce], rfl⟩
      · have tt : tvB (fun j => mI M 93 (8 * j + h)) i w = true := tvB_i.mpr ⟨j, x2, x3.symm.trans ew⟩
        rw [tt, if_neg (fun y => by cases y.2)] at ce
        rw [x1, if_pos rfl, Int32.add_zero, nI_1]
        exact ⟨_, rfl, by rw [ce], rfl⟩) (s := ((0 : Int32), (0 : Int32))) ⟨by
      rw [cnt_z 100 (fun v _ => ?_)]
      · rfl
      · cases q : tvB (fun j => mI M 93 (8 * j + h)) 0 v
        · rfl
        · obtain ⟨j, j1, -⟩ := tvB_i.mp q; omega, rfl⟩
  rw [e, q]
theorem M_best {k : Nat} {d : Nat → Nat} (hL : Lay M) (hN : gI M 9 67 1 = some (nI n)) (hn : n ≤ 8) (hd : ∀ h, h < n → loop (fun z : Int32 × Int32 => F_X9_next_s111 67 (nI k) (nI h) M z.1 z.2) ((0 : Int32), (0 : Int32)) = some (nI (d h))) : loop (fun z : Int32 × Int32 × Int32 => F_X9_next_s96 67 (nI k) M z.1 z.2.1 z.2.2) ((-1 : Int32), (0 : Int32), (0 : Int32)) = some (bsN d n) := by
  obtain ⟨r, e, q⟩ := loop_ex (step := fun z : Int32 × Int32 × Int32 => F_X9_next_s96 67 (nI k) M z.1 z.2.1 z.2.2) (fun h z => (z.1, z.2.1) = bsN d h ∧ z.2.2 = nI h) (fun r => r = bsN d n) n (by
    rintro h ⟨a, b, j⟩ hh ⟨z1, z2⟩
    dsimp only at z1 z2
    subst z2
    unfold F_X9_next_s96
    dsimp only
    rw [hN, ob_t]
    by_cases c : h = n
    · subst c
      rw [if_pos (nI_le (Nat.le_refl _) (by omega))]
      exact Or.inl ⟨_, rfl, z1⟩
    · have hh' : h < n := by omega
      refine Or.inr ⟨hh', ?_⟩
      have bs := bsN_s (d := d) (h := h)
      rw [← z1] at bs
      dsimp only at bs
      rw [if_neg (nI_ge hh' (by omega)), hd h hh', ob_t, nI_1]
      by_cases q : b < nI (d h)
      · rw [if_pos q]; rw [if_pos q] at bs
        exact ⟨_, rfl, bs.symm, rfl⟩
      · rw [if_neg q]; rw [if_neg q] at bs
        exact ⟨_, rfl, bs.symm, rfl⟩) (s := ((-1 : Int32), (0 : Int32), (0 : Int32))) ⟨rfl, rfl⟩
  rw [e, q]
theorem A_next (hc : CI M p g s L E I R T f) (hm : MI M g s L E I R T f) (hr : Rm M m) (hm5 : m < 512) (x : Int32) : LF m (F_L_next 0 x 97 M) (F_X9_next 67 x) := by
  have c := hc.cq hr (by omega)
  have g1 := c.gp.1
  have g2 := c.gp.2.1
  have se := hc.2.2.2.2.2.2.2.2.2.2.1
  have hE : ∀ e, e ∈ E → e.1 < gH g ∧ e.2.1 ≤ 20 := fun e he => ⟨se.h8 e he, se.d20 e he⟩
  unfold F_L_next
  rcases ncase x 0 1 (by omega) (by omega) with ⟨a1, -, ha1, rfl⟩ | hx
  rotate_left 1
  · refine LF.thr (k := 1) (x := 1) hc hm hr ?_ (fun M1 m => ?_) (by omega) (fun N => rfl)
    · unfold CT F_X8_next
      have gx : F_X8_needWhat x (1 : Int32) M = _ := c.needW' (b := 1) hx
      rw [gx, bdV_r]
    · obtain ⟨e0, m0, -⟩ := m.zero
      have mx : F_X9_isWhat 67 x (1 : Int32) _ = _ := m0.isW' (b := 1) hx
      refine MT.mk m (v := 0) ?_
      unfold F_X9_next
      simp only [e0, ob_t, Lc_67 m0.lay, bd2_t, ifn1, mx]
      rfl
  have gc : F_X8_needWhat (nI a1) (1 : Int32) M = _ := needW (b := 1) ha1 (by omega)
  have mg : ∀ N, MZu N g s → F_X9_isWhat 67 (nI a1) (1 : Int32) N = _ := fun N z => z.isW (b := 1) ha1 (by omega)
  obtain ⟨M1, e1, w1, x1⟩ := c.find se
  have c1 := c.c w1
  obtain ⟨M2, e2, w2⟩ := c1.nextL x1
  generalize hd : (fun h => cnt (tkB g s E h (60 * gN g)) 100) = dd at e2
  refine LF.vai (v := if a1 = 0 then (bsN dd (gH g)).1 else (bsN dd (gH g)).2) hc hm hr ⟨M2, ?_, w1.trans w2⟩ (fun N hN => ?_)
  · unfold F_X8_next
    rw [gc, bdV_l, Lc_0 c.1, e1, ob_t, e2, ob_t, u3_t]
    have : a1 = 0 ∨ a1 = 1 := by omega
    rcases this with rfl | rfl <;> rfl
  · obtain ⟨e0, z0, w0⟩ := hN.1.zero
    have q0 : SeM (stI N 67 0 0) (mI (stI N 67 0 0) 67 51) 91 E := SeM.qw hN.2.2.1 w0
    obtain ⟨⟨t1, M3⟩, e3, k1, m3, w3, k2⟩ := z0.guessL q0 hE
    dsimp only at k1 m3 w3 k2
    have cl := cnt_n (f := fiB g s E) (60 * gN g)
    have bst := M_best (M := M3) (k := cnt (fiB g s E) (60 * gN g)) (d := dd) m3.lay m3.b.nH (by omega) (fun h hh => by
      rw [M_unl m3.lay (by omega) (by omega) (fun k hk => ?_), ← hd]
      · dsimp only
        congr 2
        refine cnt_c 100 fun v hv => ?_
        have iff : tvB (fun j => mI M3 93 (8 * j + h)) (cnt (fiB g s E) (60 * gN g)) v = true ↔ tkB g s E h (60 * gN g) v = true := by
          rw [tvB_i, tkB_i]
          constructor
          · rintro ⟨k, k3, k4⟩
            obtain ⟨j, j1, j2, j3⟩ := cnt_j _ k3
            subst j3
            exact ⟨hv, j, j1, j2, by rw [← k2 j j1 j2 h hh]; exact k4⟩
          · rintro ⟨-, j, j1, j2, j3⟩
            exact ⟨cnt (fiB g s E) j, cnt_m j2 _ j1, (k2 j j1 j2 h hh).trans j3⟩
        cases q : tkB g s E h (60 * gN g) v
        · cases q' : tvB (fun j => mI M3 93 (8 * j + h)) (cnt (fiB g s E) (60 * gN g)) v
          · rfl
          · rw [iff.mp q'] at q; cases q
        · exact iff.mpr q
      · obtain ⟨j, j1, j2, j3⟩ := cnt_j _ hk
        subst j3
        obtain ⟨w, hw, ew⟩ := ws_bnd (u := j / 60) (z := j % 60 + 1) c.gp c.gd hh (by omega) (by omega)
        exact ⟨w, hw, by rw [k2 j j1 j2 h hh, ew]⟩)
    refine ⟨M3, ?_, w0.trans w3, m3⟩
    unfold F_X9_next
    rw [e0, ob_t, Lc_67 z0.lay, mg _ z0, bd2_t, if_neg (by decide), e3, ob_t, u2_t, k1, bst, ob_t]
    have : a1 = 0 ∨ a1 = 1 := by omega
    rcases this with rfl | rfl <;> rfl
end
