/-! ===== a text is read: the class, lines ===== -/
section
variable {M M' M1 M2 N N' : Mem} {B : Nat → Nat} {n q p t : Nat} {X Y : Nat → Nat → Prop} {G : Gt}
theorem RuL.kp {x : Option Nat} {o : Option (List Int32)} (h : RuL M x o) (w : Kp X Y M M') (hX : ∀ k j, NC ≤ k → ¬ X k j) (hY : ∀ k j, NC ≤ k → ¬ Y k j) : RuL M' x o := by
  rcases h with h | ⟨k, l, h1, h2, h3, h4, h5, h6, h7, h8⟩
  · exact Or.inl h
  · exact Or.inr ⟨k, l, h1, h2, h3, w.tg h4, w.pt (ltT h4) (hY _ _ h3) h5, w.tg h6, h7, fun i hi => (w.2.2.1 _ _ (ltT h6) (hX _ _ (by omega))).trans (h8 i hi)⟩
theorem XL_n {k j : Nat} (hp : p = 4 ∨ p = 14) (h : NC ≤ k) : ¬ XL p k j ∧ ¬ YL p k j := by
  have h : 98 ≤ k := h
  unfold XL YL; omega
theorem XH_L {k j : Nat} (h : XH p k j) : XL p k j := by
  unfold XH XN at h; unfold XL; omega
theorem TkC.kp (s : TkC B n q M) (w : Kp X Y M M') (L' : Lay M') (h : ∀ j, (j = 2 ∨ (5 ≤ j ∧ j ≤ 8)) → ¬ X 1 j) (h2 : ∀ i, ¬ X 2 i) : TkC B n q M' := by
  have hl := s.1.1.len
  have e : ∀ j, (j = 2 ∨ (5 ≤ j ∧ j ≤ 8)) → mI M' 1 j = mI M 1 j := fun j hj => w.2.2.1 1 j (by omega) (h j hj)
  exact ⟨⟨L', s.1.2.1, s.1.2.2.1, (e 2 (by omega)).trans s.1.2.2.2.1, fun i hi => (w.2.2.1 2 i (by omega) (h2 i)).trans (s.1.2.2.2.2 i hi)⟩, s.2.1, (e 6 (by omega)).trans s.2.2.1, (e 7 (by omega)).trans s.2.2.2.1, (e 5 (by omega)).trans s.2.2.2.2.1, fun k => (e 8 (by omega)).trans (s.2.2.2.2.2 k)⟩
theorem C_rule (hp : p = 4 ∨ p = 14) (ht : t ≤ 1) (c : LnC B n p M (.inl (G, q))) (hc : cdT B n q ≠ 0) (r1 : M.1.length + 2 * remG G ≤ CLM) (r2 : mS M + 701 * remG G ≤ SLM) : ∃ M', F_X3_ruleLine 1 p (nI t) M = some M' ∧ LnC B n p M' (ruL B n t G q) ∧ Kp (XL p) (YL p) M M' ∧ GrC M M' (remG G) (remR (ruL B n t G q)) := by
  obtain ⟨⟨tk, h3⟩, d1, d2, d3, d4, d5, d6, d7⟩ := c
  have L := tk.1.1
  have hn := tk.1.2.1
  have hlen := L.len
  have t01 : t = 0 ∨ t = 1 := by omega
  have nz1 : t ≠ 0 → ¬ nI t = (0 : Int32) := fun h => neL0 h (by omega)
  have gq : ∀ j, gQ M 2 p j = some (mP M p j) := fun j => gQ_t (L.PlO hp).1
  by_cases old : (if t = 0 then tEas G else tBur G) = none
  rotate_left 1
  · -- a second rule
    obtain ⟨M', e, f, w, -⟩ := C_fl (k := 5) tk h3 (by omega) (by omega)
    have j15 : ∀ k, F_X3_ruleLine_j15 1 p (nI t) k M = some M' := fun k => by
      unfold F_X3_ruleLine_j15
      rw [Lc_1 L, show (5 : Int32) = nI 5 from rfl, e, ob_t]
    have ru : ruL B n t G q = .inr (5, plT B n q) := if_pos old
    rw [ru]
    refine ⟨M', ?_, f, (w.kp (Y := XL p) fun k j y => by unfold XN at y; unfold XL; omega), ?_⟩
    · unfold F_X3_ruleLine
      rcases t01 with rfl | rfl
      · rw [if_pos (show nI 0 = (0 : Int32) from rfl), gq]
        rcases d6 with ⟨-, z⟩ | ⟨k, l, z, -⟩
        · exact absurd z (by rw [if_pos rfl] at old; exact old)
        · rw [z, bdQ_s, j15]
      · rw [if_neg (show ¬ nI 1 = (0 : Int32) by decide), gq]
        rcases d7 with ⟨-, z⟩ | ⟨k, l, z, -⟩
        · exact absurd z (by rw [if_neg (by omega)] at old; exact old)
        · rw [z, bdQ_s, j15]
    · show M'.1.length + 2 * 0 ≤ M.1.length + 2 * remG G ∧ mS M' + 701 * 0 ≤ mS M + 701 * remG G
      rw [w.1, w.2.2.1]; omega
  · have rg : 1 ≤ remG G := by
      unfold remG
      rcases t01 with rfl | rfl
      · rw [if_pos rfl] at old; rw [if_pos old]; omega
      · rw [if_neg (by omega)] at old; rw [if_pos old]; omega
    have rg2 : remG G ≤ 2 := by unfold remG; split <;> split <;> omega
    obtain ⟨M1, e1, s1, w1⟩ := C_ad tk h3
    have L1 := s1.lay
    have ce := cd_en tk.2.1 hc
    have w2 : Fr (fun k j => k = 1 ∧ (j = 10 ∨ j = 11)) M1 (stI (stI M1 1 10 0) 1 11 (nI t)) := (Fr.rfl'.st ⟨rfl, Or.inl rfl⟩).st ⟨rfl, Or.inr rfl⟩
    have cs : CSp B n t (stI (stI M1 1 10 0) 1 11 (nI t)) ([], enT B n q, 0, 0) := ⟨s1.1.fr w2 (fun j hj => by omega) (fun i => by omega), by rw [mI_sn (by omega), mI_se]; rfl, fun i hi => absurd hi (Nat.not_lt_zero _), (w2.at (by omega)).trans s1.2, fun y => absurd rfl y, by show (0 : Nat) ≤ 5; omega, mI_se⟩
    obtain ⟨M3, e3, c3, w3⟩ := C_sim (B := B) (n := n) ht 37 60 0 0 (by omega) (by omega) (by omega) ([], enT B n q, 0, 0) _ cs (Nat.zero_le _)
    have pb := pj_b (B := B) (n := n) (t := t) 37 0 0 ([], enT B n q, 0, 0) ce.2.1
    generalize hσ : pjP B n t 37 0 0 ([], enT B n q, 0, 0) = σ at *
    have pb3 : σ.1.length + enT B n q ≤ 0 + σ.2.1 := pb.2.2
    have pb2 := pb.2.1
    have wR : Fr (fun k j => (k = 1 ∧ j ≠ 1) ∨ k = 3) M M3 := ((w1.mono fun k j y => by unfold XN at y; omega).trans (w2.mono fun k j y => by omega)).trans (w3.mono fun k j y => by unfold XR at y; omega)
    have L3 := c3.lay
    have len3 : M3.1.length = M.1.length := by rw [wR.1]
    obtain ⟨M4, k4, g1, g2, g3, g4, g5⟩ := new_rule (M := M3) (len := σ.1.length) L3 c3.2.1 (by omega) (by rw [wR.1]; omega) (by rw [wR.2.2.1]; omega)
    have l4 : M4.1.length = M.1.length + 2 := by rw [g1, List.length_append, List.length_append, len3]; rfl
    have t4 : M4.1[p]? = some (2, 0) := by
      rw [g1, List.append_assoc, List.getElem?_append_left (by rw [len3]; omega)]
      exact (L3.PlO hp).1
    have fin : (if nI t = 0 then (pQ M4 2 p 10 (some M3.1.length)).bind fun M29 => some M29 else (pQ M4 2 p 11 (some M3.1.length)).bind fun M31 => some M31) = some (stP M4 p (10 + t) (some M3.1.length)) := by
      rcases t01 with rfl | rfl
      · rw [if_pos (show nI 0 = (0 : Int32) from rfl), pQ_t t4, ob_t]
      · rw [if_neg (show ¬ nI 1 = (0 : Int32) by decide), pQ_t t4, ob_t]
    have pz : pZ (stI M1 1 10 0) 3 1 11 (nI t) = some (stI (stI M1 1 10 0) 1 11 (nI t)) := pZ_t (by rcases t01 with rfl | rfl; exact Or.inl rfl; exact Or.inr rfl) (L1.st.t rfl)
    have e3' : F_rec REC0 0 1 (0 : Int32) (0 : Int32) (stI (stI M1 1 10 0) 1 11 (nI t)) = some M3 := e3
    have kp : Kp (XL p) (YL p) M (stP M4 p (10 + t) (some M3.1.length)) := by
      refine ⟨by show M.1.length ≤ M4.1.length; omega, fun k hk => ?_, fun k j hk hx => ?_, fun k j hk hy => ?_⟩
      · show M4.1[k]? = _
        rw [g1, List.append_assoc, List.getElem?_append_left (by rw [len3]; exact hk), wR.1]
      · rw [mI_stP, (g3 k (by rw [len3]; exact hk)).1]
        exact wR.at fun y => hx (by unfold XL; omega)
      · rw [mP_stP, if_neg (fun y => hy (by unfold YL; omega)), (g3 k (by rw [len3]; exact hk)).2, wR.2.1]
    have LE : Lay (stP M4 p (10 + t) (some M3.1.length)) := L.kp kp (by
      intro x hx
      have : ∀ x ∈ PT0, ¬ (x.1 = 4 ∧ (x.2.1 = 10 ∨ x.2.1 = 11)) ∧ ¬ (x.1 = 14 ∧ (x.2.1 = 10 ∨ x.2.1 = 11)) := by decide
      have := this x hx
      unfold YL
      rcases hp with rfl | rfl
      · exact this.1
      · exact this.2)
    have m1 : ∀ j, mI (stP M4 p (10 + t) (some M3.1.length)) 1 j = mI M3 1 j := fun j => by rw [mI_stP, (g3 1 (by omega)).1]
    have kp3 : Kp (fun k j => (k = p ∧ False)) (YL p) M3 (stP M4 p (10 + t) (some M3.1.length)) := by
      refine ⟨by show M3.1.length ≤ M4.1.length; omega, fun k hk => ?_, fun k j hk _ => ?_, fun k j hk hy => ?_⟩
      · show M4.1[k]? = _
        rw [g1, List.append_assoc, List.getElem?_append_left hk]
      · rw [mI_stP, (g3 k hk).1]
      · rw [mP_stP, if_neg (fun y => hy (by unfold YL; omega)), (g3 k hk).2]
    have tk4 : TkC B n σ.2.1 (stP M4 p (10 + t) (some M3.1.length)) := c3.1.kp kp3 LE (fun j _ y => y.2) (fun i y => y.2)
    refine ⟨stP M4 p (10 + t) (some M3.1.length), ?_, ?_, kp, ?_⟩
    · unfold F_X3_ruleLine
      rcases t01 with rfl | rfl
      · have on : mP M p 10 = none := by
          rcases d6 with ⟨z, -⟩ | ⟨k, l, -, z, -⟩
          · exact z
          · rw [if_pos rfl, z] at old; cases old
        rw [if_pos (show nI 0 = (0 : Int32) from rfl), gq, on, bdQ_n, Lc_1 L, e1, ob_t, Ls_1 L1, ob_t, pz, ob_t, Lc_1 L1.st.st, e3', ob_t, k4 (fun M26 => if nI 0 = 0 then (pQ M26 2 p 10 (some M3.1.length)).bind fun M29 => some M29 else (pQ M26 2 p 11 (some M3.1.length)).bind fun M31 => some M31)]
        exact fin
      · have on : mP M p 11 = none := by
          rcases d7 with ⟨z, -⟩ | ⟨k, l, -, z, -⟩
          · exact z
          · rw [if_neg (by omega), z] at old; cases old
        rw [if_neg (show ¬ nI 1 = (0 : Int32) by decide), gq, on, bdQ_n, Lc_1 L, e1, ob_t, Ls_1 L1, ob_t, pz, ob_t, Lc_1 L1.st.st, e3', ob_t, k4 (fun M26 => if nI 1 = 0 then (pQ M26 2 p 10 (some M3.1.length)).bind fun M29 => some M29 else (pQ M26 2 p 11 (some M3.1.length)).bind fun M31 => some M31)]
        exact fin
    · unfold ruL
      rw [hσ, if_neg (fun y => y old)]
      by_cases k : σ.2.2.1 = 0
      · rw [if_pos k]
        have oo : ∀ k, k ≠ 1 → k ≠ 3 → k < M.1.length → mI (stP M4 p (10 + t) (some M3.1.length)) k = mI M k := fun k a b hk => by
          funext j
          rw [mI_stP, (g3 k (by omega)).1]; exact wR.at (by omega)
        have nr : RuL (stP M4 p (10 + t) (some M3.1.length)) (some M3.1.length) (some σ.1) := by
          refine Or.inr ⟨M3.1.length, σ.1, rfl, rfl, by show 98 ≤ _; omega, ?_, ?_, ?_, by omega, fun i hi => ?_⟩
          · show M4.1[M3.1.length]? = _
            rw [g1, List.append_assoc, List.getElem?_append_right (Nat.le_refl _), Nat.sub_self]; rfl
          · rw [mP_stP, if_neg (by omega), g4]
          · show M4.1[M3.1.length + 1]? = _
            rw [g1, List.append_assoc, List.getElem?_append_right (by omega), show M3.1.length + 1 - M3.1.length = 1 by omega]; rfl
          · rw [mI_stP, g5 i hi]; exact c3.2.2.1 i hi
        have rk : ∀ {x o}, RuL M x o → RuL (stP M4 p (10 + t) (some M3.1.length)) x o := fun h => h.kp kp (fun k j hk => (XL_n hp hk).1) (fun k j hk => (XL_n hp hk).2)
        refine ⟨⟨tk4, by rw [m1, c3.2.2.2.1, k]; rfl⟩, ⟨?_, ?_, ?_⟩, d2, fun h hh => ?_, fun i hi => ?_, fun i hi => ?_, ?_, ?_⟩
        · rw [oo p (by omega) (by omega) (by omega)]; exact d1.1
        · rw [oo p (by omega) (by omega) (by omega)]; exact d1.2.1
        · rw [oo p (by omega) (by omega) (by omega)]; exact d1.2.2
        · rw [oo _ (by omega) (by omega) (by omega), oo _ (by omega) (by omega) (by omega), oo _ (by omega) (by omega) (by omega)]; exact d3 h hh
        · rw [oo _ (by omega) (by omega) (by omega), oo _ (by omega) (by omega) (by omega), oo _ (by omega) (by omega) (by omega)]; exact d4 i hi
        · rw [oo _ (by omega) (by omega) (by omega)]; exact d5 i hi
        · show RuL _ (mP (stP M4 p (10 + t) (some M3.1.length)) p 10) (if t = 0 then some σ.1 else tEas G)
          rcases t01 with rfl | rfl
          · rw [if_pos rfl, mP_stP, if_pos ⟨rfl, rfl⟩]; exact nr
          · rw [if_neg (by omega), mP_stP, if_neg (by omega), (g3 p (by omega)).2, wR.2.1]; exact rk d6
        · show RuL _ (mP (stP M4 p (10 + t) (some M3.1.length)) p 11) (if t = 0 then tBur G else some σ.1)
          rcases t01 with rfl | rfl
          · rw [if_pos rfl, mP_stP, if_neg (by omega), (g3 p (by omega)).2, wR.2.1]; exact rk d7
          · rw [if_neg (by omega), mP_stP, if_pos ⟨rfl, rfl⟩]; exact nr
      · rw [if_neg k]
        exact ⟨LE, by rw [m1]; exact c3.2.2.2.1, by rw [m1]; exact c3.2.2.2.2.1 k, ⟨by omega, c3.2.2.2.2.2.1⟩, _, tk4⟩
    · have rr : remR (ruL B n t G q) + 1 ≤ remG G := by
        unfold ruL
        rw [hσ, if_neg (fun y => y old)]
        by_cases k : σ.2.2.1 = 0
        · rw [if_pos k]
          show (if (if t = 0 then some σ.1 else tEas G) = none then 1 else 0) + (if (if t = 0 then tBur G else some σ.1) = none then 1 else 0) + 1 ≤ remG G
          unfold remG
          rcases t01 with rfl | rfl
          · rw [if_pos rfl] at old
            rw [if_pos rfl, if_pos rfl, if_neg (fun y => by cases y), if_pos old]; omega
          · rw [if_neg (by omega)] at old
            rw [if_neg (show ¬ (1 : Nat) = 0 by omega), if_neg (show ¬ (1 : Nat) = 0 by omega), if_neg (show ¬ some σ.1 = none from fun y => by cases y), if_pos old]; omega
        · rw [if_neg k]; exact rg
      refine ⟨?_, ?_⟩
      · show M4.1.length + _ ≤ _; omega
      · show mS M4 + _ ≤ _
        rw [g2, wR.2.2.1]; omega
end
