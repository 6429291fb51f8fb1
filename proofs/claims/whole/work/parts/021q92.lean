/-! ===== a text is read: the class, people and damp ===== -/
section
variable {M M' M1 M2 N N' : Mem} {B : Nat → Nat} {n q p : Nat} {X Y : Nat → Nat → Prop} {G : Gt}
theorem P_a (L : Lay M) (hp : p = 4 ∨ p = 14) {r i : Nat} (h1 : 1 ≤ r) (h7 : r ≤ 7) (hi : i < 8) : aI M 100 (p + r) (nI i) = some (mI M (p + r) i) := by
  have o := L.PlO hp
  have : r = 1 ∨ r = 2 ∨ r = 3 ∨ r = 4 ∨ r = 5 ∨ r = 6 ∨ r = 7 := by omega
  rcases this with rfl | rfl | rfl | rfl | rfl | rfl | rfl
  · exact aI_t o.2.1.1 hi (by omega)
  · exact aI_t o.2.2.1.1 hi (by omega)
  · exact aI_t o.2.2.2.1.1 hi (by omega)
  · exact aI_t o.2.2.2.2.1.1 hi (by omega)
  · exact aI_t o.2.2.2.2.2.1.1 hi (by omega)
  · exact aI_t o.2.2.2.2.2.2.1.1 hi (by omega)
  · exact aI_t o.2.2.2.2.2.2.2.1.1 hi (by omega)
theorem P_c (L : Lay M) (hp : p = 4 ∨ p = 14) {β : Type} {o : Option β} : ckO M 2 p o = o := ckO_t (L.PlO hp).1
theorem C_some {v : Int32} (L : Lay M) (hp : p = 4 ∨ p = 14) (h1 : mI M p 1 = nI (tP G)) (h8 : tP G ≤ 8) (hh : ∀ i, i < tP G → mI M (p + 6) i = tHom G i) : (F_X2_hasSomebodyAtFirst p v M = some 1 ∧ ∃ i, i < tP G ∧ tHom G i = v) ∨ (F_X2_hasSomebodyAtFirst p v M = some 0 ∧ ¬ ∃ i, i < tP G ∧ tHom G i = v) := by
  obtain ⟨r, e, z⟩ := loop_ex (step := fun s => F_X2_hasSomebodyAtFirst_s2 p v M s) (fun j s => s = nI j ∧ ∀ i, i < j → tHom G i ≠ v) (fun r => (r = .inl () ∧ ∀ i, i < tP G → tHom G i ≠ v) ∨ (r = .inr 1 ∧ ∃ i, i < tP G ∧ tHom G i = v)) (tP G) (by
    rintro j s hj ⟨z1, z2⟩
    subst z1
    unfold F_X2_hasSomebodyAtFirst_s2
    rw [P_f L hp, ob_t, h1]
    by_cases c : j = tP G
    · rw [if_pos (nI_le (by omega) (by omega))]
      exact Or.inl ⟨_, rfl, Or.inl ⟨rfl, fun i hi => z2 i (by omega)⟩⟩
    · rw [if_neg (nI_ge (by omega) (by omega)), P_8 L hp, ob_t, P_a L hp (by omega) (by omega) (by omega), ob_t, hh j (by omega)]
      by_cases d : tHom G j = v
      · rw [if_pos d]
        exact Or.inl ⟨_, rfl, Or.inr ⟨rfl, j, by omega, d⟩⟩
      · rw [if_neg d, nI_1]
        refine Or.inr ⟨by omega, _, rfl, rfl, fun i hi => ?_⟩
        by_cases e : i = j
        · rw [e]; exact d
        · exact z2 i (by omega)) (s := (0 : Int32)) ⟨rfl, fun i hi => by omega⟩
  unfold F_X2_hasSomebodyAtFirst
  rw [e, ob_t]
  rcases z with ⟨x1, x2⟩ | ⟨x1, x2⟩
  · exact Or.inr ⟨by rw [x1]; rfl, fun ⟨i, hi, y⟩ => x2 i hi y⟩
  · exact Or.inl ⟨by rw [x1]; rfl, x2⟩
theorem C_home (hp : p = 4 ∨ p = 14) (t : TkC B n q M) (h3 : mI M 1 3 = 0) (h0 : mI M p 0 = nI (tH G)) (hH : tH G ≤ 8) (h1 : mI M p 1 = nI (tP G)) (h8 : tP G ≤ 8) (hh : ∀ i, i < tP G → mI M (p + 6) i = tHom G i) : ∃ x M', F_X3_takeHome 1 p M = some (x, M') ∧ StC B n M' (homS B n G q) ∧ Fr XN M M' ∧ ∀ q', homS B n G q = .inl q' → x = nvT B n q := by
  have L := t.1.1
  have hq := t.2.1
  have bad : ∀ (x : Int32) (k : Nat), 1 ≤ k → k ≤ 5 → homS B n G q = .inr (k, plT B n q) → ∃ M', (F_X3_fail 1 (nI k) M).bind (fun M9 => some (x, M9)) = some (x, M') ∧ StC B n M' (homS B n G q) ∧ Fr XN M M' := fun x k h1 h5 e => by
    obtain ⟨M', e1, f1, w1, -⟩ := C_fl t h3 h1 h5
    exact ⟨M', by rw [e1, ob_t], by rw [e]; exact f1, w1⟩
  unfold F_X3_takeHome
  rw [Lf_1 L, ob_t, t.kind, ob_t]
  by_cases k3 : cdT B n q = 17 ∨ 1000 ≤ cdT B n q
  · rw [if_pos (t.k3.mpr k3), t.num k3]
    have cl := cd_le hq t.b
    by_cases c17 : cdT B n q = 17
    · have hs : homS B n G q = .inr (2, plT B n q) := by unfold homS; rw [if_neg (fun y => y k3), if_pos c17]
      obtain ⟨M', e1, s1, w1⟩ := bad (-1) 2 (by omega) (by omega) hs
      refine ⟨-1, M', ?_, s1, w1, fun q' e => by rw [hs] at e; cases e⟩
      rw [if_pos c17, if_pos rfl, Lc_1 L, show (2 : Int32) = nI 2 from rfl, e1]
    · rw [if_neg c17, if_neg (nI_nm1 (by omega)), P_f L hp, ob_t, h0]
      by_cases lt : tH G ≤ cdT B n q - 1000
      · have hs : homS B n G q = .inr (3, plT B n q) := by unfold homS; rw [if_neg (fun y => y k3), if_neg c17, if_pos lt]
        obtain ⟨M', e1, s1, w1⟩ := bad (nI (cdT B n q - 1000)) 3 (by omega) (by omega) hs
        refine ⟨nI (cdT B n q - 1000), M', ?_, s1, w1, fun q' e => by rw [hs] at e; cases e⟩
        rw [if_neg (nI_nlt lt (by omega)), Lc_1 L, show (3 : Int32) = nI 3 from rfl, e1]
      · rw [if_pos (nI_lt (by omega) (by omega)), P_c L hp]
        rcases C_some (v := nI (cdT B n q - 1000)) L hp h1 h8 hh with ⟨e, y⟩ | ⟨e, y⟩
        · have hs : homS B n G q = .inr (4, plT B n q) := by unfold homS; rw [if_neg (fun y => y k3), if_neg c17, if_neg lt, if_pos (show ∃ i, i < tP G ∧ tHom G i = nvT B n q from y)]
          obtain ⟨M', e1, s1, w1⟩ := bad (nI (cdT B n q - 1000)) 4 (by omega) (by omega) hs
          refine ⟨nI (cdT B n q - 1000), M', ?_, s1, w1, fun q' e => by rw [hs] at e; cases e⟩
          rw [e, ob_t, if_neg (by decide), Lc_1 L, show (4 : Int32) = nI 4 from rfl, e1]
        · have hs : homS B n G q = .inl (enT B n q) := by unfold homS; rw [if_neg (fun y => y k3), if_neg c17, if_neg lt, if_neg (show ¬ ∃ i, i < tP G ∧ tHom G i = nvT B n q from y)]
          obtain ⟨M', e1, s1, w1⟩ := C_ad t h3
          refine ⟨nI (cdT B n q - 1000), M', ?_, by rw [hs]; exact s1, w1, fun q' e => rfl⟩
          rw [e, ob_t, if_pos rfl, Lc_1 L, e1, ob_t]
  · have hs : homS B n G q = .inr (1, plT B n q) := by unfold homS; rw [if_pos k3]
    obtain ⟨M', e1, s1, w1⟩ := bad (mI M 1 8) 1 (by omega) (by omega) hs
    refine ⟨mI M 1 8, M', ?_, s1, w1, fun q' e => by rw [hs] at e; cases e⟩
    rw [if_neg (fun y => k3 (t.k3.mp y)), Lc_1 L, show (1 : Int32) = nI 1 from rfl, e1]
theorem C_person (hp : p = 4 ∨ p = 14) (c : LnC B n p M (.inl (G, q))) : ∃ M', F_X3_personLine 1 p M = some M' ∧ LnC B n p M' (psL B n G q) ∧ Fr (XH p) M M' := by
  obtain ⟨⟨t, h3⟩, d1, d2, d3, d4, d5, d6, d7⟩ := c
  have L := t.1.1
  have nN : ∀ k j, k ≠ 1 → ¬ XN k j := fun k j hk y => hk y.1
  have hX : ∀ k j, NC ≤ k → ¬ XH p k j := fun k j hk y => by
    have hk : 98 ≤ k := hk
    rcases y with y | y
    · have := y.1; omega
    · omega
  unfold F_X3_personLine psL
  rw [P_f L hp, ob_t, d1.2.1]
  by_cases h8 : tP G = 8
  · obtain ⟨M', e, f, w, -⟩ := C_fl (k := 2) t h3 (by omega) (by omega)
    rw [if_neg (show ¬ nI (tP G) < (8 : Int32) by rw [h8]; decide), Lc_1 L, show (2 : Int32) = nI 2 from rfl, e, ob_t, if_pos h8]
    exact ⟨M', rfl, f, w.mono fun _ _ => XN_H⟩
  · have hH : tP G < 8 := by omega
    obtain ⟨M1, e1, s1, w1⟩ := C_ad t h3
    have L1 := s1.lay
    obtain ⟨x1, M2, e2, s2, w2, v1⟩ := C_number (lo := 1) (hi := 60) (by omega) (by omega) s1
    have s2' := s2.st (k := p + 4) (j := tP G) (v := x1) (by omega) (by omega)
    obtain ⟨x2, M3, e3, s3, w3, v2⟩ := C_number (lo := 0) (hi := 9) (by omega) (by omega) s2'
    have s3' := (s3.st (k := p + 5) (j := tP G) (v := x2) (by omega) (by omega)).st (k := p + 6) (j := tP G) (v := -1) (by omega) (by omega)
    have L2 := s2.lay
    have L3 := s3.lay
    have f1 : Fr (XH p) M M1 := w1.mono fun _ _ => XN_H
    have f2 : Fr (XH p) M (stI M2 (p + 4) (tP G) x1) := (f1.trans (w2.mono fun _ _ => XN_H)).st (Or.inr (by omega))
    have f3 : Fr (XH p) M (stI (stI M3 (p + 5) (tP G) x2) (p + 6) (tP G) (-1)) := ((f2.trans (w3.mono fun _ _ => XN_H)).st (Or.inr (by omega))).st (Or.inr (by omega))
    have o1 : ∀ k, k ≠ 1 → mI M1 k = mI M k := fun k hk => funext fun j => w1.at (nN k j hk)
    have o2 : ∀ k, k ≠ 1 → mI M2 k = mI M1 k := fun k hk => funext fun j => w2.at (nN k j hk)
    have o3 : ∀ k, k ≠ 1 → mI M3 k = mI (stI M2 (p + 4) (tP G) x1) k := fun k hk => funext fun j => w3.at (nN k j hk)
    have a1 : mI M1 p 1 = nI (tP G) := by rw [o1 p (by omega)]; exact d1.2.1
    have a2 : mI (stI M2 (p + 4) (tP G) x1) p 1 = nI (tP G) := by rw [mI_sn (by omega), o2 p (by omega)]; exact a1
    have a3 : mI (stI M3 (p + 5) (tP G) x2) p 1 = nI (tP G) := by rw [mI_sn (by omega), o3 p (by omega)]; exact a2
    have e2' : F_X3_takeNumber 1 (1 : Int32) (60 : Int32) M1 = some (x1, M2) := e2
    have e3' : F_X3_takeNumber 1 (0 : Int32) (9 : Int32) (stI M2 (p + 4) (tP G) x1) = some (x2, M3) := e3
    rw [if_pos (show nI (tP G) < (8 : Int32) from nI_lt (b := 8) hH (by omega)), Lc_1 L, e1, ob_t, P_6 L1 hp, ob_t, P_f L1 hp, ob_t, a1, Lc_1 L1, e2', bd2_t, P_w L2 hp (by omega) (by omega) hH, ob_t, P_7 L2.st hp, ob_t, P_f L2.st hp, ob_t, a2, Lc_1 L2.st, e3', bd2_t, P_w L3 hp (by omega) (by omega) hH, ob_t, P_8 L3.st hp, ob_t, P_f L3.st hp, ob_t, a3, P_w L3.st hp (by omega) (by omega) hH, ob_t, Lf_1 L3.st.st, ob_t, if_neg h8]
    generalize hS : stI (stI M3 (p + 5) (tP G) x2) (p + 6) (tP G) (-1) = S at *
    have LS : Lay S := s3'.lay
    have sp : ∀ j, mI S p j = mI M p j := fun j => by rw [← hS, mI_sn (by omega), mI_sn (by omega), o3 p (by omega), mI_sn (by omega), o2 p (by omega), o1 p (by omega)]
    -- what a line that is right leaves
    have fin : ∀ (S' : Mem) (hv : Int32) (q' : Nat), Lay S' → Fr (XH p) M S' → (∀ k, k ≠ 1 → k ≠ p + 6 → mI S' k = mI S k) → (∀ i, i ≠ tP G → mI S' (p + 6) i = mI S (p + 6) i) → mI S' (p + 6) (tP G) = hv → StC B n S' (.inl q') → x1 = nvT B n (enT B n q) → x2 = nvT B n (enT B n (enT B n q)) → ∃ M', F_X3_personLine_j95 p S' = some M' ∧ LnC B n p M' (.inl ((tH G, tP G + 1, tD G, tSiz G, tGiv G, tStr G, upg (tHee G) (tP G) (nvT B n (enT B n q)), upg (tGro G) (tP G) (nvT B n (enT B n (enT B n q))), upg (tHom G) (tP G) hv, tDam G, tEas G, tBur G), q')) ∧ Fr (XH p) M M' := fun S' hv q' L' f' k1 k2 k3 st y1 y2 => by
      have f'' : Fr (XH p) M (stI S' p 1 (nI (tP G + 1))) := f'.st (Or.inr (by omega))
      refine ⟨stI S' p 1 (nI (tP G + 1)), ?_, ⟨st.st (by omega) (by omega), ⟨?_, mI_se, ?_⟩, ⟨d2.1, by show tP G + 1 ≤ 8; omega, d2.2.2⟩, fun h hh => ?_, fun i hi => ?_, fun i hi => ?_, ?_, ?_⟩, f''⟩
      · unfold F_X3_personLine_j95
        rw [P_f L' hp, ob_t, k1 p (by omega) (by omega), sp, d1.2.1, nI_1, P_s L' hp, ob_t]
      · rw [mI_sn (by omega), k1 p (by omega) (by omega), sp]; exact d1.1
      · rw [mI_sn (by omega), k1 p (by omega) (by omega), sp]; exact d1.2.2
      · rw [mI_sn (by omega), mI_sn (by omega), mI_sn (by omega), k1 _ (by omega) (by omega), k1 _ (by omega) (by omega), k1 _ (by omega) (by omega), ← hS]
        have z : ∀ k, k = p + 1 ∨ k = p + 2 ∨ k = p + 3 → mI (stI (stI M3 (p + 5) (tP G) x2) (p + 6) (tP G) (-1)) k h = mI M k h := fun k hk => by
          rw [mI_sn (by omega), mI_sn (by omega), o3 k (by omega), mI_sn (by omega), o2 k (by omega), o1 k (by omega)]
        rw [z _ (by omega), z _ (by omega), z _ (by omega)]
        exact d3 h hh
      · have hi : i < tP G + 1 := hi
        show _ = upg (tHee G) (tP G) _ i ∧ _ = upg (tGro G) (tP G) _ i ∧ _ = upg (tHom G) (tP G) _ i
        rw [mI_sn (by omega), mI_sn (by omega), mI_sn (by omega), k1 (p + 4) (by omega) (by omega), k1 (p + 5) (by omega) (by omega)]
        by_cases e : i = tP G
        · subst e
          rw [upg_eq, upg_eq, upg_eq, k3, ← hS]
          refine ⟨?_, ?_, rfl⟩
          · rw [mI_sn (by omega), mI_sn (by omega), o3 _ (by omega), mI_se, y1]
          · rw [mI_sn (by omega), mI_se, y2]
        · rw [upg_ne e, upg_ne e, upg_ne e, k2 i e, ← hS]
          have z : ∀ k, k = p + 4 ∨ k = p + 5 ∨ k = p + 6 → mI (stI (stI M3 (p + 5) (tP G) x2) (p + 6) (tP G) (-1)) k i = mI M k i := fun k hk => by
            rw [mI_sn (by omega), mI_sn (by omega), o3 k (by omega), mI_sn (by omega), o2 k (by omega), o1 k (by omega)]
          rw [z _ (by omega), z _ (by omega), z _ (by omega)]
          exact d4 i (by omega)
      · rw [mI_sn (by omega), k1 _ (by omega) (by omega), ← hS, mI_sn (by omega), mI_sn (by omega), o3 _ (by omega), mI_sn (by omega), o2 _ (by omega), o1 _ (by omega)]
        exact d5 i hi
      · rw [f''.2.1]; exact d6.fr f'' hX
      · rw [f''.2.1]; exact d7.fr f'' hX
    have flt : ∀ (S' : Mem) (f : Nat × Nat), CFt B n S' f.1 f.2 → Fr (XH p) M S' → ∃ M', F_X3_personLine_j95 p S' = some M' ∧ LnC B n p M' (.inr f) ∧ Fr (XH p) M M' := fun S' f cf f' => by
      refine ⟨stI S' p 1 (mI S' p 1 + 1), ?_, cf.st (by omega) (by omega), f'.st (b := p) (j := 1) (v := mI S' p 1 + 1) (Or.inr (by omega))⟩
      unfold F_X3_personLine_j95
      rw [P_f cf.1 hp, ob_t, P_s cf.1 hp, ob_t]
    cases hs : numS B n 0 9 (numS B n 1 60 (.inl (enT B n q))) with
    | inr f =>
      rw [hs] at s3'
      rw [s3'.2.1, if_neg (neL0 (by have := s3'.2.2.2.1; omega) (by have := s3'.2.2.2.1; omega))]
      exact flt S f s3' f3
    | inl q3 =>
      rw [hs] at s3'
      obtain ⟨q2, g2, -, rfl⟩ := num_i hs
      obtain ⟨q1, g1, -, rfl⟩ := num_i g2
      have g1' := Sum.inl.inj g1
      subst g1'
      have y1 := v1 _ _ rfl g2
      have y2 := v2 _ _ g2 hs
      rw [s3'.2, if_pos rfl, Lc_1 LS, s3'.1.isW (k := 3) (by omega) (by omega), ob_t]
      dsimp only
      by_cases c3 : cdT B n (enT B n (enT B n (enT B n q))) = 3
      · rw [if_pos c3, if_neg (by decide), if_pos c3, Lc_1 LS]
        obtain ⟨M5, e5, s5, w5⟩ := C_ad s3'.1 s3'.2
        have o5 : ∀ k, k ≠ 1 → mI M5 k = mI S k := fun k hk => funext fun j => w5.at (nN k j hk)
        have L5 := s5.lay
        have a5 : mI M5 p 1 = nI (tP G) := by rw [o5 p (by omega), sp]; exact d1.2.1
        obtain ⟨x, M6, e6, s6, w6, v6⟩ := C_home (G := G) hp s5.1 s5.2 (by rw [o5 p (by omega), sp]; exact d1.1) d2.1 a5 d2.2.1 (fun i hi => by
          rw [o5 _ (by omega), ← hS, mI_sn (by omega), mI_sn (by omega), o3 _ (by omega), mI_sn (by omega), o2 _ (by omega), o1 _ (by omega)]
          exact (d4 i hi).2.2)
        have o6 : ∀ k, k ≠ 1 → mI M6 k = mI M5 k := fun k hk => funext fun j => w6.at (nN k j hk)
        have L6 := s6.lay
        have f6 : Fr (XH p) M (stI M6 (p + 6) (tP G) x) := ((f3.trans (w5.mono fun _ _ => XN_H)).trans (w6.mono fun _ _ => XN_H)).st (Or.inr (by omega))
        have s6' := s6.st (k := p + 6) (j := tP G) (v := x) (by omega) (by omega)
        rw [e5, ob_t, P_8 L5 hp, ob_t, P_f L5 hp, ob_t, a5, Lc_1 L5, e6, bd2_t, P_w L6 hp (by omega) (by omega) hH, ob_t]
        cases hh : homS B n G (enT B n (enT B n (enT B n (enT B n q)))) with
        | inr f =>
          rw [hh] at s6'
          exact flt _ f s6' f6
        | inl q5 =>
          rw [hh] at s6'
          have hx := v6 _ hh
          exact fin _ (nvT B n (enT B n (enT B n (enT B n (enT B n q))))) q5 L6.st f6 (fun k k1 k2 => by funext j; rw [mI_sn (by omega), o6 k k1, o5 k k1]) (fun i hi => by rw [mI_sn (by omega), o6 _ (by omega), o5 _ (by omega)]) (by rw [mI_se, hx]) s6' y1 y2
      · rw [if_neg c3, if_pos rfl, if_neg c3]
        exact fin S (-1) _ LS f3 (fun _ _ _ => rfl) (fun _ _ => rfl) (by rw [← hS, mI_se]) s3' y1 y2
end
