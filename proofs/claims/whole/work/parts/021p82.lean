section
variable {M M' : Mem} {p m : Nat} {g : Pg} {s s' : Sg} {L L' : List Sg} {E E' : List Se} {I I' : Option (Sg × List Sg × List Se)} {R R' : Nat → Int32} {T T' : List Nat} {f f' : Int32} {D : List Nat}
/-- what stays when a row of acts at a is written, its slot (r, j) too -/
abbrev KR (D : List Nat) (a r j : Nat) (M M' : Mem) : Prop := Kp (fun k _ => Blk a k ∨ k ∈ D) (fun k i => k = r ∧ i = j) M M'
theorem KR.row {a r j : Nat} (w : KR D a r j M M') (hA : AcR M) (hA' : AcR M') (hr : r = 39 ∨ r = 52) (hj : j < 40) (hja : mP M' r j = some a) (hD : ∀ k ∈ D, k < 98) (hl : 98 ≤ M.1.length) {r' j' b : Nat} {t : Sg} (hr' : r' = 39 ∨ r' = 52) (hj' : j' < 40) (hne : ¬ (r' = r ∧ j' = j)) (hb : mP M r' j' = some b) (hs : StV M b g t) : mP M' r' j' = some b ∧ StV M' b g t := by
  have hb' : mP M' r' j' = some b := w.pt (by omega) hne hb
  have h98 := (hA.1 r' hr' j' b hj' hb).1
  have hba : b ≠ a := fun z => hne (by subst z; exact hA'.2 r' r j' j b hr' hr hj' hj hb' hja)
  have s1 := (hA'.1 r' hr' j' b hj' hb').2
  have s2 := (hA'.1 r hr j a hj hja).2
  refine ⟨hb', hs.kp w (fun k hk i z => ?_) (fun i z => by unfold NC at h98; have := z.1; omega)⟩
  rcases z with z | z
  · obtain ⟨z1, z2⟩ := z
    exact StO.disj s1 s2 hba (i := k) (j := b + k - a) hk (by omega) (by omega)
  · have := hD _ z; unfold NC at h98; omega
theorem KR.pl {a r j : Nat} (w : KR D a r j M M') (h4 : PlV M p g) (h5 : RuN M p) (hp : p = 4 ∨ p = 14) (ha : NC ≤ a) (hO : StO M' a) (hr : r = 39 ∨ r = 52) (hD : ∀ k ∈ D, k < 98 ∧ ¬ (4 ≤ k ∧ k < 12) ∧ ¬ (14 ≤ k ∧ k < 22)) : PlV M' p g ∧ RuN M' p := by
  unfold NC at ha
  refine h4.kp h5 w (fun k hk i z => ?_) (fun i z => by have := z.1; omega) (fun k n i hk h1 h2 z => ?_) (fun k i hk _ z => by have := z.1; unfold NC at hk; omega)
  · rcases z with z | z
    · have := z.1; omega
    · have := hD _ z; omega
  · rcases z with z | z
    · exact fix_ru hO (w.tg h1) (w.tg h2) z
    · have := hD _ z; unfold NC at hk; omega
theorem CI.row {a r j : Nat} (h : CI M p g s L E I R T f) (w : KR D a r j M M') (ha : NC ≤ a) (hA' : AcR M') (hr : r = 39 ∨ r = 52) (hj : j < 40) (hja : mP M' r j = some a) (hD : ∀ k ∈ D, k < 98 ∧ ¬ (4 ≤ k ∧ k < 12) ∧ ¬ (14 ≤ k ∧ k < 22)) (hs : StV M' 24 g s' ∧ GdS 999 g s') (hL : AcV M' 38 39 g L' ∧ ∀ t ∈ L', GdS 999 g t) (hE : SeV M' 40 g E') (hI : ImV M' g I') (hR : ∀ i, i < 3 → mI M' 57 i = R' i) (hT : TaV M' T') (hf : mI M' 0 1 = f') : CI M' p g s' L' E' I' R' T' f' := by
  have hl := h.1.len
  have pl := KR.pl w h.2.2.2.1 h.2.2.2.2.1 h.p14 ha (hA'.1 r hr j a hj hja).2 hr hD
  refine ⟨h.1.kp w (fun q hq z => ?_), ?_, w.pt (by omega) (fun z => by have := z.1; omega) h.2.2.1, pl.1, pl.2, hs.1, hs.2, hA', hL.1, hL.2, hE, hI, hR, hT, hf⟩
  · have : ∀ q ∈ PT0, q.1 ≠ 39 ∧ q.1 ≠ 52 := by decide
    have := this q hq
    have := z.1
    omega
  · rcases h.2.1 with z | z
    · exact Or.inl ⟨z.1, w.pt (by omega) (fun z => by have := z.1; omega) z.2⟩
    · exact Or.inr ⟨z.1, w.pt (by omega) (fun z => by have := z.1; omega) z.2⟩
theorem KR.small {a r j : Nat} (w : KR D a r j M M') (ha : NC ≤ a) (hl : 98 ≤ M.1.length) {k : Nat} (hk : k < 98) (hkD : k ∉ D) : mI M' k = mI M k := w.rw (by omega) fun i z => by
  unfold NC at ha
  rcases z with z | z
  · have := z.1; omega
  · exact hkD z
theorem KR.st {a r j b : Nat} {t : Sg} (w : KR D a r j M M') (ha : NC ≤ a) (hl : 98 ≤ M.1.length) (hr : r = 39 ∨ r = 52) (hb : b = 24 ∨ b = 44) (hkD : ∀ i, i < 7 → b + i ∉ D) (hs : StV M b g t) : StV M' b g t := hs.kp w (fun k hk i z => by
  unfold NC at ha
  rcases z with z | z
  · have := z.1; omega
  · exact hkD k hk z) (fun i z => by have := z.1; omega)
theorem KR.se {a r j o : Nat} (w : KR D a r j M M') (ha : NC ≤ a) (hl : 98 ≤ M.1.length) (hb : o = 40 ∨ o = 53) (hkD : ∀ i, i < 4 → o + i ∉ D) (hs : SeV M o g E) : SeV M' o g E := hs.kp w (by omega) (fun k hk i z => by
  unfold NC at ha
  rcases z with z | z
  · have := z.1; omega
  · exact hkD k hk z)
theorem KR.ac {a r j o r' : Nat} (w : KR D a r j M M') (ha : NC ≤ a) (hA : AcR M) (hA' : AcR M') (hr : r = 39 ∨ r = 52) (hj : j < 40) (hja : mP M' r j = some a) (hD : ∀ k ∈ D, k < 98) (hl : 98 ≤ M.1.length) (ho : (o = 38 ∧ r' = 39) ∨ (o = 51 ∧ r' = 52)) (hkD : o ∉ D) (hne : r' ≠ r) (h : AcV M o r' g L) : AcV M' o r' g L := by
  obtain ⟨f0, h1, h2, h3, h4, h5⟩ := h
  have e := KR.small w ha hl (k := o) (by omega) hkD
  refine ⟨f0, h1, by rw [e]; exact h2, by rw [e]; exact h3, h4, fun i t ht => ?_⟩
  obtain ⟨b, q1, q2⟩ := h5 i t ht
  have hm : (f0 + i) % 40 < 40 := Nat.mod_lt _ (by omega)
  obtain ⟨z1, z2⟩ := KR.row w hA hA' hr hj hja hD hl (by omega) hm (fun z => hne z.1) q1 q2
  exact ⟨b, z1, z2⟩
theorem rem40 {a b : Nat} (h : a + b < 2 ^ 31) : (nI a + nI b) - (nI a + nI b) / (40 : Int32) * (40 : Int32) = nI ((a + b) % 40) := by rw [nI_add]; exact nI_rem (b := 40) h (by omega) (by omega)
theorem C_keepj (h : CI M p g s L E I R T f) (hlen : L.length < 40) (h1 : M.1.length + 7 ≤ CLM) (h2 : mS M + 57 ≤ SLM) : ∃ M', F_X0_keep_j32 38 24 M = some M' ∧ CI M' p g s (L ++ [s]) E I R T f ∧ (∀ k, 67 ≤ k → k < 98 → mI M' k = mI M k) ∧ M'.1.length ≤ M.1.length + 7 ∧ mS M' ≤ mS M + 57 := by
  have hl := h.1.len
  obtain ⟨f0, a1, a2, a3, a4, a5⟩ := h.2.2.2.2.2.2.2.2.1
  have hj : (f0 + L.length) % 40 < 40 := Nat.mod_lt _ (by omega)
  obtain ⟨a, M1, e1, c1, c2, c3, c4, c5, c6, c7, -⟩ := C_row (o := 38) (r := 39) h.1 (Or.inl ⟨rfl, rfl⟩) h.2.2.2.2.2.2.2.1 hj h1 h2
  have hL1 : Lay M1 := h.1.kp c4 (fun q hq z => by
    have : ∀ q ∈ PT0, q.1 ≠ 39 := by decide
    exact this q hq z.1)
  have s24 : StV M1 24 g s := h.2.2.2.2.2.1.kp c4 (fun _ _ _ z => z) (fun i z => by have := z.1; omega)
  have ha := c1
  unfold NC at ha
  obtain ⟨M2, e2, s2, w2⟩ := F_copy (a := a) (b := 24) c2 s24 h.2.2.2.2.2.2.1 h.2.2.2.1.2.1 (Or.inr (by omega))
  have hl1 := hL1.len
  have n38 : 38 ∉ WC a := by unfold WC; simp; omega
  have e38 : mI M2 38 = mI M 38 := by rw [w2.2.2.2.2 38 n38, c4.rw (by omega) (fun _ z => z)]
  have hL2 : Lay M2 := hL1.wr w2
  have w : KR [38] a 39 ((f0 + L.length) % 40) M (stI M2 38 2 (nI L.length + 1)) := by
    refine ⟨by show M.1.length ≤ M2.1.length; rw [w2.1]; exact c4.1, fun k hk => by show M2.1[k]? = _; rw [w2.1]; exact c4.2.1 k hk, fun k i hk hX => ?_, fun k i hk hY => ?_⟩
    · have hk38 : k ≠ 38 := fun z => hX (Or.inr (by rw [z]; simp))
      have hkb : k ∉ WC a := fun z => hX (Or.inl (by unfold WC at z; simp only [List.mem_cons, List.not_mem_nil, or_false] at z; unfold Blk; omega))
      rw [mI_stne hk38, w2.2.2.2.2 k hkb]
      exact c4.2.2.1 k i hk (fun z => z)
    · rw [mP_st, w2.2.2.1]; exact c4.2.2.2 k i hk hY
  have hA' : AcR (stI M2 38 2 (nI L.length + 1)) := by
    refine c5.kp (M' := stI M2 38 2 (nI L.length + 1)) (X := fun _ _ => True) (Y := Y0) ⟨by show M1.1.length ≤ M2.1.length; rw [w2.1]; exact Nat.le_refl _, fun k _ => by show M2.1[k]? = _; rw [w2.1], fun _ _ _ z => absurd trivial z, fun k i _ _ => by rw [mP_st, w2.2.2.1]⟩ hl1 (fun _ => ⟨fun z => z, fun z => z⟩) (fun _ _ _ z => z)
  have hja : mP (stI M2 38 2 (nI L.length + 1)) 39 ((f0 + L.length) % 40) = some a := by rw [mP_st, w2.2.2.1]; exact c3
  have hD : ∀ k ∈ [38], k < 98 ∧ ¬ (4 ≤ k ∧ k < 12) ∧ ¬ (14 ≤ k ∧ k < 22) := by decide
  have hD2 : ∀ k ∈ [38], k < 98 := by decide
  have sm : ∀ k, k < 98 → k ≠ 38 → mI (stI M2 38 2 (nI L.length + 1)) k = mI M k := fun k hk hne => KR.small w c1 hl hk (by simp; exact hne)
  refine ⟨stI M2 38 2 (nI L.length + 1), ?_, ?_, fun k k1 k2 => sm k k2 (by omega), by show M2.1.length ≤ _; rw [w2.1]; exact c6, by show mS M2 ≤ _; rw [w2.2.2.2.1]; exact c7⟩
  · unfold F_X0_keep_j32
    rw [Lf_38 h.1, ob_t, Lf_38 h.1, ob_t, a2, a3, Lc_38 h.1, rem40 (by omega), e1, bd2_t, ckO_t c2.1, e2, ob_t, Lf_38 hL2, ob_t, Ls_38 hL2, ob_t, e38, a3]
  · refine h.row w c1 hA' (Or.inl rfl) hj hja hD ⟨KR.st w c1 hl (Or.inl rfl) (Or.inl rfl) (fun i hi => by simp; omega) h.2.2.2.2.2.1, h.2.2.2.2.2.2.1⟩ ⟨⟨f0, a1, ?_, ?_, ?_, fun i t ht => ?_⟩, fun t ht => ?_⟩ (KR.se w c1 hl (Or.inl rfl) (fun i hi => by simp; omega) h.2.2.2.2.2.2.2.2.2.2.1) ?_ (fun i hi => by rw [sm 57 (by omega) (by omega)]; exact h.2.2.2.2.2.2.2.2.2.2.2.2.1 i hi) ?_ (by rw [sm 0 (by omega) (by omega)]; exact h.2.2.2.2.2.2.2.2.2.2.2.2.2.2)
    · rw [mI_steq, upg_ne (by omega), e38]; exact a2
    · rw [mI_steq, upg_eq, List.length_append]; exact nI_1 _
    · rw [List.length_append]; simp; omega
    · by_cases c : i < L.length
      · rw [List.getElem?_append_left c] at ht
        obtain ⟨b, q1, q2⟩ := a5 i t ht
        have hm : (f0 + i) % 40 < 40 := Nat.mod_lt _ (by omega)
        obtain ⟨z1, z2⟩ := KR.row w h.2.2.2.2.2.2.2.1 hA' (Or.inl rfl) hj hja hD2 hl (Or.inl rfl) hm (fun z => by have := z.2; omega) q1 q2
        exact ⟨b, z1, z2⟩
      · rw [List.getElem?_append_right (by omega)] at ht
        have hi : i - L.length < [s].length := (List.getElem?_eq_some_iff.mp ht).1
        simp at hi
        have e : i = L.length := by omega
        subst e
        simp at ht
        subst ht
        exact ⟨a, hja, s2.kp (M' := stI M2 38 2 (nI L.length + 1)) (X := fun k _ => k = 38) (Y := Y0) ⟨Nat.le_refl _, fun _ _ => rfl, fun k i _ z => by rw [mI_stne z], fun _ _ _ _ => rfl⟩ (fun k hk i z => by omega) (fun _ z => z)⟩
    · rw [List.mem_append, List.mem_singleton] at ht
      rcases ht with ht | rfl
      · exact h.2.2.2.2.2.2.2.2.2.1 t ht
      · exact h.2.2.2.2.2.2.1
    · have h12 := h.2.2.2.2.2.2.2.2.2.2.2.1
      cases I with
      | none => show mI (stI M2 38 2 _) 0 8 = 0; rw [sm 0 (by omega) (by omega)]; exact h12
      | some x =>
        obtain ⟨s', L', E'⟩ := x
        obtain ⟨z1, z2, z3, z4, z5, z6⟩ := h12
        exact ⟨by rw [sm 0 (by omega) (by omega)]; exact z1, KR.st w c1 hl (Or.inl rfl) (Or.inr rfl) (fun i hi => by simp; omega) z2, z3, KR.ac w c1 h.2.2.2.2.2.2.2.1 hA' (Or.inl rfl) hj hja hD2 hl (Or.inr ⟨rfl, rfl⟩) (by decide) (by decide) z4, z5, KR.se w c1 hl (Or.inr rfl) (fun i hi => by simp; omega) z6⟩
    · unfold TaV; rw [sm 1 (by omega) (by omega), sm 2 (by omega) (by omega)]; exact h.2.2.2.2.2.2.2.2.2.2.2.2.2.1
theorem C_keep (h : CI M p g s L E I R T f) (h1 : M.1.length + 7 ≤ CLM) (h2 : mS M + 57 ≤ SLM) : ∃ M', F_X0_keep 38 24 M = some M' ∧ CI M' p g s (keptL L s) E I R T f ∧ (∀ k, 67 ≤ k → k < 98 → mI M' k = mI M k) ∧ M'.1.length ≤ M.1.length + 7 ∧ mS M' ≤ mS M + 57 := by
  have hl := h.1.len
  obtain ⟨f0, a1, a2, a3, a4, a5⟩ := h.2.2.2.2.2.2.2.2.1
  unfold F_X0_keep keptL
  rw [Lf_38 h.1, ob_t, a3]
  by_cases c : L.length = 40
  · rw [if_neg (show ¬ nI L.length < (40 : Int32) from nI_nlt (b := 40) (by omega) (by omega)), Lf_38 h.1, ob_t, a2, if_pos c, Ls_38 h.1, ob_t]
    have r1 : nI f0 + 1 - (nI f0 + 1) / (40 : Int32) * (40 : Int32) = nI ((f0 + 1) % 40) := rem40 (b := 1) (by omega)
    rw [r1, Lf_38 (M := stI M 38 1 _) h.1, ob_t, mI_steq, upg_ne (by omega), a3, Ls_38 (M := stI M 38 1 _) h.1, ob_t]
    have r2 : nI L.length - 1 = nI 39 := by rw [c]; exact nI_pred 39
    rw [r2]
    have w : Wr [38] M (stI (stI M 38 1 (nI ((f0 + 1) % 40))) 38 2 (nI 39)) := (Wr.rfl'.st (by simp)).st (by simp)
    have hD : ∀ k ∈ [38], k < 98 := by decide
    have hc : CI (stI (stI M 38 1 (nI ((f0 + 1) % 40))) 38 2 (nI 39)) p g s (L.drop 1) E I R T f := by
      refine h.re w.kp hD (by decide) (h.s_kp w.kp (fun k k1 k2 => by simp; omega)) ⟨⟨(f0 + 1) % 40, Nat.mod_lt _ (by omega), ?_, ?_, ?_, fun i t ht => ?_⟩, fun t ht => h.2.2.2.2.2.2.2.2.2.1 t (List.mem_of_mem_drop ht)⟩ (h.E_kp w.kp (by decide)) (h.I_kp w.kp hD (by decide) (fun k k1 k2 => by simp; omega)) (h.R_kp w.kp (by decide)) (h.T_kp w.kp (by decide)) (h.f_kp w.kp (by decide))
      · rw [mI_steq, upg_ne (by omega), mI_steq, upg_eq]
      · rw [mI_steq, upg_eq, List.length_drop, c]
      · rw [List.length_drop]; omega
      · rw [List.getElem?_drop] at ht
        obtain ⟨b, q1, q2⟩ := a5 (1 + i) t ht
        have em : ((f0 + 1) % 40 + i) % 40 = (f0 + (1 + i)) % 40 := by omega
        refine ⟨b, by rw [em]; exact q1, q2.kp w.kp (fun k hk i z => ?_) (fun _ z => z)⟩
        have := (h.2.2.2.2.2.2.2.1.1 39 (Or.inl rfl) _ b (Nat.mod_lt _ (by omega)) q1).1
        unfold NC at this
        simp at z
        omega
    obtain ⟨M', e1, c1, c2, c3, c4⟩ := C_keepj hc (by rw [List.length_drop]; omega) h1 h2
    exact ⟨M', e1, c1, fun k k1 k2 => by rw [c2 k k1 k2, mI_stne (by omega), mI_stne (by omega)], c3, c4⟩
  · rw [if_pos (show nI L.length < (40 : Int32) from nI_lt (b := 40) (by omega) (by omega)), if_neg c]
    exact C_keepj h (by omega) h1 h2
end
