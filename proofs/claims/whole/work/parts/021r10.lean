/-! ===== a text is read: the reference, whole ===== -/
section
variable {M M' N N' N1 N2 : Mem} {B : Nat → Nat} {n q t : Nat} {X Y : Nat → Nat → Prop} {G : Gt}
def XG (k j : Nat) : Prop := (k = 67 ∧ (j = 13 ∨ j = 14 ∨ (17 ≤ j ∧ j ≤ 32))) ∨ (75 ≤ k ∧ k ≤ 82)
theorem XF_G {k j : Nat} (h : XF k j) : XG k j := by unfold XF at h; unfold XG; omega
theorem XB_G {k j : Nat} (h : XB k j) : XG k j := by unfold XB XF at h; unfold XG; omega
theorem XE_G {b k j : Nat} (h : XE b k j) : XG k j := by unfold XE XT at h; unfold XG; omega
theorem DrM.fr {q' : Nat} (d : DrM N G q) (w : Fr XF N N') (h : q ≤ q') : DrM N' G q' := by
  obtain ⟨d1, d2, d3, d4, d5, s, d6, d7, d8, d9⟩ := d
  have oo : ∀ k, k ≠ 67 → mI N' k = mI N k := fun k k1 => funext fun j => w.at (by unfold XF; omega)
  have o7 : ∀ j, 23 ≤ j → mI N' 67 j = mI N 67 j := fun j j1 => w.at (by unfold XF; omega)
  refine ⟨⟨by rw [o7 24 (by omega)]; exact d1.1, by rw [o7 25 (by omega)]; exact d1.2.1, by rw [o7 26 (by omega)]; exact d1.2.2⟩, fun h hh => ?_, fun i hi => ?_, fun i hi => by rw [oo 78 (by omega)]; exact d4 i hi, by rw [oo 79 (by omega)]; exact d5, s, by rw [o7 29 (by omega)]; exact d6, by omega, ?_, ?_⟩
  · unfold WhG
    rw [oo 79 (by omega), oo 75 (by omega), oo 76 (by omega)]; exact d2 h hh
  · rw [oo 79 (by omega), oo 77 (by omega)]; exact d3 i hi
  · rw [o7 27 (by omega)]; exact d8.g (oo 80 (by omega))
  · rw [o7 28 (by omega)]; exact d9.g (oo 80 (by omega))
theorem M_sign {r : RlT} (c : LnM B n N r) : ∃ N', F_X9_line_j199 67 N = some N' ∧ LnM B n N' (sgE B n r) ∧ Fr XF N N' := by
  cases r with
  | inr f =>
    have h : FtM N f.1 f.2 := c
    have L := h.1
    refine ⟨N, ?_, c, Fr.rfl'⟩
    have ev : ∃ v, F_X9_isSign 67 (59 : Int32) N = some v := by
      unfold F_X9_isSign
      rw [Lf_67 L, ob_t, Lf_67 L, ob_t]
      split
      · split
        · exact ⟨_, rfl⟩
        · exact ⟨_, rfl⟩
      · exact ⟨_, rfl⟩
    obtain ⟨v, ev⟩ := ev
    unfold F_X9_line_j199 F_X9_need
    rw [Lc_67 L, ev, ob_t, Lc_67 L, Lc_67 L, h.bad, ob_t, if_pos rfl, ob_t]
  | inl x =>
    obtain ⟨G', q'⟩ := x
    obtain ⟨⟨k, h⟩, d⟩ := c
    have L := k.1.1
    have hq := k.2.1
    unfold F_X9_line_j199 F_X9_need sgE
    rw [Lc_67 L, show F_X9_isSign 67 (59 : Int32) N = some (if cdT B n q' = 79 then 1 else 0) from k.isS (c := 59) (by unfold sgS; omega), ob_t, Lc_67 L, Lc_67 L, M_g1 L h, ob_t, if_neg (by decide)]
    dsimp only
    by_cases c79 : cdT B n q' = 79
    · obtain ⟨N', e, s, w⟩ := M_ad k h
      have ce := cd_en hq (by omega : cdT B n q' ≠ 0)
      rw [if_pos c79, if_neg (by decide), Lc_67 L, e, ob_t, ob_t, if_pos c79]
      exact ⟨N', rfl, ⟨s, d.fr w (by omega)⟩, w⟩
    · obtain ⟨N', e, f, w⟩ := M_wr (k := 1) k h (by omega) (by omega)
      rw [if_neg c79, if_pos rfl, Lc_67 L, show (1 : Int32) = nI 1 from rfl, e, ob_t, ob_t, if_neg c79]
      exact ⟨N', rfl, f, w⟩
theorem M_beg (k : TkM B n q N) (h : GoM N) : ∃ N', F_X9_begins 67 0 0 N = some (1, N') ∧ StM B n N' (.inl (enT B n q)) ∧ Fr XF N N' := by
  have L := k.1.1
  obtain ⟨N', e, s, w⟩ := M_ad k h
  refine ⟨N', ?_, s, w⟩
  unfold F_X9_begins F_X9_begins_j9 F_X9_begins_j18
  rw [if_pos rfl, if_pos rfl, Lc_67 L, M_g1 L h, ob_t, if_neg (by decide), Lc_67 L, e, ob_t]
theorem M_beg2 (k : TkM B n q N) (h : GoM N) : ∃ N', F_X9_begins 67 1 0 N = some (0, N') ∧ FtM N' 2 (plT B n q) ∧ Fr XF N N' := by
  have L := k.1.1
  obtain ⟨N', e, f, w⟩ := M_wr (k := 2) k h (by omega) (by omega)
  refine ⟨N', ?_, f, w⟩
  unfold F_X9_begins F_X9_begins_j9 F_X9_begins_j18
  rw [if_neg (by decide), Lc_67 L, show (2 : Int32) = nI 2 from rfl, e, ob_t, if_pos rfl, Lc_67 f.1, f.bad, ob_t, if_pos rfl]
theorem M_beg5 (k : TkM B n q N) (h : GoM N) : ∃ N', F_X9_begins 67 0 1 N = some (0, N') ∧ FtM N' 5 (plT B n q) ∧ Fr XF N N' := by
  have L := k.1.1
  obtain ⟨N', e, f, w⟩ := M_wr (k := 5) k h (by omega) (by omega)
  refine ⟨N', ?_, f, w⟩
  unfold F_X9_begins F_X9_begins_j9 F_X9_begins_j18
  rw [if_pos rfl, if_neg (by decide), Lc_67 L, show (5 : Int32) = nI 5 from rfl, e, ob_t, Lc_67 f.1, f.bad, ob_t, if_pos rfl]
theorem M_rRule (ht : t ≤ 1) (hq0 : q < enT B n q) (d : DrM N G q) (c : StM B n N (.inl (enT B n q))) (old : (if t = 0 then tEas G else tBur G) = none) : ∃ (s : Nat) (N' : Mem), mI N 67 29 = nI s ∧ F_X9_expression 67 (nI (5 + t)) (stI N 67 (27 + t) (nI s)) = some N' ∧ LnM B n N' (ruL B n t G q) ∧ Fr XG N N' := by
  obtain ⟨d1, d2, d3, d4, d5, s, d6, d7, d8, d9⟩ := d
  have c' := c.st (k := 67) (j := 27 + t) (v := nI s) (by omega)
  obtain ⟨g1, g2⟩ := M_expr (b := s) ht c'.1 c'.2.1 c'.2.2 (by rw [mI_sn (by omega)]; exact d6) (by omega)
  have w0 : Fr XG N (stI N 67 (27 + t) (nI s)) := Fr.rfl'.st (by unfold XG; omega)
  have pb := pj_b (B := B) (n := n) (t := t) 37 0 0 ([], enT B n q, 0, 0) c.1.2.1
  unfold ruL
  rw [if_neg (fun y => y old)]
  generalize pjP B n t 37 0 0 ([], enT B n q, 0, 0) = σ at *
  by_cases k : σ.2.2.1 = 0
  · obtain ⟨N', e, t1, t2, t3, t4, t5, t6, t7⟩ := g1 k
    have p1 : enT B n q ≤ σ.2.1 := pb.1
    rw [if_pos k]
    refine ⟨s, N', d6, e, ?_, w0.trans (t7.mono fun _ _ => XE_G)⟩
    have nE : ∀ k j, k ≠ 67 → k < 80 → ¬ XE s k j := fun k j h1 h2 y => by unfold XE XT at y; omega
    have oo : ∀ k, k ≠ 67 → k < 80 → mI N' k = mI N k := fun k h1 h2 => funext fun j => by rw [t7.at (nE k j h1 h2), mI_sn (by omega)]
    have o7 : ∀ j, (24 ≤ j ∧ j ≤ 28) → j ≠ 27 + t → mI N' 67 j = mI N 67 j := fun j h1 h2 => by rw [t7.at (by unfold XE XT; omega), mI_sn (by omega)]
    have o80 : ∀ i, i < s → mI N' 80 i = mI N 80 i := fun i hi => by rw [t7.at (by unfold XE XT; omega), mI_sn (by omega)]
    have new : mI N' 67 (27 + t) = nI s := by rw [t7.at (by unfold XE XT; omega), mI_se]
    refine ⟨⟨t1, t2⟩, ⟨by rw [o7 24 (by omega) (by omega)]; exact d1.1, by rw [o7 25 (by omega) (by omega)]; exact d1.2.1, by rw [o7 26 (by omega) (by omega)]; exact d1.2.2⟩, fun h hh => ?_, fun i hi => ?_, fun i hi => by rw [oo 78 (by omega) (by omega)]; exact d4 i hi, by rw [oo 79 (by omega) (by omega)]; exact d5, _, t4, t5, ?_, ?_⟩
    · unfold WhG
      rw [oo 79 (by omega) (by omega), oo 75 (by omega) (by omega), oo 76 (by omega) (by omega)]; exact d2 h hh
    · rw [oo 79 (by omega) (by omega), oo 77 (by omega) (by omega)]; exact d3 i hi
    · show RlL N' (mI N' 67 27) (if t = 0 then some σ.1 else tEas G) _
      by_cases t0 : t = 0
      · subst t0
        rw [if_pos rfl]
        exact Or.inr ⟨s, _, new, rfl, t3, by omega⟩
      · rw [if_neg t0, o7 27 (by omega) (by omega)]
        exact d8.x (by omega) o80
    · show RlL N' (mI N' 67 28) (if t = 0 then tBur G else some σ.1) _
      by_cases t0 : t = 0
      · rw [if_pos t0, o7 28 (by omega) (by omega)]
        exact d9.x (by omega) o80
      · have t1' : t = 1 := by omega
        subst t1'
        rw [if_neg (by omega)]
        exact Or.inr ⟨s, _, new, rfl, t3, by omega⟩
  · obtain ⟨N', e, t1, t2, t3, t4, t5, t6⟩ := g2 k
    rw [if_neg k]
    exact ⟨s, N', d6, e, ⟨t1, t2, t3, t4, t5⟩, w0.trans (t6.mono fun _ _ => XE_G)⟩
theorem M_line (g : GdG G) (c : LnM B n N (.inl (G, q))) (hc : cdT B n q ≠ 0) : ∃ N', F_X9_line 67 N = some N' ∧ LnM B n N' (lnE B n G q) ∧ Fr XG N N' := by
  obtain ⟨⟨k, h⟩, d⟩ := c
  have L := k.1.1
  have hn := k.1.2.1
  have hq := k.2.1
  have ce := cd_en hq hc
  have kw : ∀ j, j < 15 → (kwI (cdT B n q) = nI j ↔ cdT B n q = idc j) := fun j hj => k.kwe hj
  have k7 : kwI (cdT B n q) = (7 : Int32) ↔ cdT B n q = 1 := kw 7 (by omega)
  have k8 : kwI (cdT B n q) = (8 : Int32) ↔ cdT B n q = 2 := kw 8 (by omega)
  have k4 : kwI (cdT B n q) = (4 : Int32) ↔ cdT B n q = 4 := kw 4 (by omega)
  have k10 : kwI (cdT B n q) = (10 : Int32) ↔ cdT B n q = 5 := kw 10 (by omega)
  have k11 : kwI (cdT B n q) = (11 : Int32) ↔ cdT B n q = 15 := kw 11 (by omega)
  obtain ⟨NB, eB, sB, wB⟩ := M_beg k h
  obtain ⟨N2, e2, f2, w2⟩ := M_beg2 k h
  obtain ⟨N5, e5, f5, w5⟩ := M_beg5 k h
  have dB : DrM NB G q := d.fr wB (Nat.le_refl _)
  have LB := sB.lay
  have endL : ∀ {N3 : Mem} {r : RlT}, lnL B n G q = r → LnM B n N3 r → Fr XG N N3 → ∃ N', F_X9_line_j199 67 N3 = some N' ∧ LnM B n N' (lnE B n G q) ∧ Fr XG N N' := fun {N3 r} e l w => by
    obtain ⟨N', e', l', w'⟩ := M_sign l
    exact ⟨N', e', by rw [lnE_s, e]; exact l', w.trans (w'.mono fun _ _ => XF_G)⟩
  have wBG : Fr XG N NB := wB.mono fun _ _ => XF_G
  unfold F_X9_line
  rw [Lc_67 L, k.kw, ob_t]
  by_cases c1 : cdT B n q = 1
  · have el : lnL B n G q = hsL B n G q := if_pos c1
    rw [if_pos (k7.mpr c1), Lf_67 L, ob_t, d.1.1]
    unfold F_X9_line_j26
    by_cases h8 : tH G = 8
    · rw [if_pos (show nI (tH G) = (8 : Int32) by rw [h8]; rfl), Lc_67 L, e2, bd2_t, if_pos rfl]
      exact endL (el.trans (if_pos h8)) f2 (w2.mono fun _ _ => XF_G)
    · have hH : tH G < 8 := by have := g.1.1; omega
      rw [if_neg (show ¬ nI (tH G) = (8 : Int32) from fun y => h8 ((nI_eq (b := 8) (by omega) (by omega)).mp y)), Lc_67 L, eB, bd2_t, if_neg (by decide), Lc_67 LB]
      obtain ⟨N3, e3, l3, w3⟩ := M_rHouse g hq dB sB hH
      rw [e3, ob_t]
      exact endL el l3 (wBG.trans (w3.mono fun _ _ => XB_G))
  rw [if_neg (fun y => c1 (k7.mp y))]
  by_cases c2 : cdT B n q = 2
  · have el : lnL B n G q = psL B n G q := (if_neg c1).trans (if_pos c2)
    rw [if_pos (k8.mpr c2), Lf_67 L, ob_t, d.1.2.1]
    unfold F_X9_line_j61
    by_cases h8 : tP G = 8
    · rw [if_pos (show nI (tP G) = (8 : Int32) by rw [h8]; rfl), Lc_67 L, e2, bd2_t, if_pos rfl]
      exact endL (el.trans (if_pos h8)) f2 (w2.mono fun _ _ => XF_G)
    · have hH : tP G < 8 := by have := g.1.2.1; omega
      rw [if_neg (show ¬ nI (tP G) = (8 : Int32) from fun y => h8 ((nI_eq (b := 8) (by omega) (by omega)).mp y)), Lc_67 L, eB, bd2_t, if_neg (by decide), Lc_67 LB]
      obtain ⟨N3, e3, l3, w3⟩ := M_rPerson g hq dB sB hH
      rw [e3, ob_t]
      exact endL el l3 (wBG.trans (w3.mono fun _ _ => XB_G))
  rw [if_neg (fun y => c2 (k8.mp y))]
  by_cases c4 : cdT B n q = 4
  · have el : lnL B n G q = dpL B n G q := (if_neg c1).trans ((if_neg c2).trans (if_pos c4))
    rw [if_pos (k4.mpr c4), Lf_67 L, ob_t, d.1.2.2]
    unfold F_X9_line_j94
    by_cases h8 : 0 < tD G
    · rw [if_neg (show ¬ nI (tD G) ≤ 0 from nI_ge (a := 0) h8 (by have := g.1.2.2; omega)), Lc_67 L, e5, bd2_t, if_pos rfl]
      exact endL (el.trans (if_pos h8)) f5 (w5.mono fun _ _ => XF_G)
    · rw [if_pos (show nI (tD G) ≤ 0 from nI_le (b := 0) (by omega) (by omega)), Lc_67 L, eB, bd2_t, if_neg (by decide), Lc_67 LB]
      obtain ⟨N3, e3, l3, w3⟩ := M_rDamp dB hq sB (by omega)
      rw [e3, ob_t]
      exact endL el l3 (wBG.trans (w3.mono fun _ _ => XB_G))
  rw [if_neg (fun y => c4 (k4.mp y))]
  by_cases c5 : cdT B n q = 5
  · have el : lnL B n G q = ruL B n 0 G q := (if_neg c1).trans ((if_neg c2).trans ((if_neg c4).trans (if_pos c5)))
    obtain ⟨d1, d2, d3, d4, d5, s, d6, d7, d8, d9⟩ := d
    rw [if_pos (k10.mpr c5), Lf_67 L, ob_t]
    unfold F_X9_line_j128
    rcases d8 with ⟨x1, x2⟩ | ⟨kk, l, x1, x2, -, x4⟩
    · rw [x1, if_pos rfl, Lc_67 L, eB, bd2_t, if_neg (by decide), Lf_67 LB, ob_t]
      obtain ⟨s', N3, e0, e3, l3, w3⟩ := M_rRule (t := 0) (by omega) ce.1 dB sB (by rw [if_pos rfl]; exact x2)
      have e3' : F_X9_expression 67 (5 : Int32) (stI NB 67 27 (nI s')) = some N3 := e3
      rw [e0, Ls_67 LB, ob_t, Lc_67 LB.st, e3', ob_t]
      exact endL el l3 (wBG.trans w3)
    · rw [x1, if_neg (nI_nm1 (by omega)), Lc_67 L, e5, bd2_t, if_pos rfl]
      exact endL (el.trans (if_pos (by rw [if_pos rfl, x2]; exact fun y => by cases y))) f5 (w5.mono fun _ _ => XF_G)
  rw [if_neg (fun y => c5 (k10.mp y))]
  by_cases c15 : cdT B n q = 15
  · have el : lnL B n G q = ruL B n 1 G q := (if_neg c1).trans ((if_neg c2).trans ((if_neg c4).trans ((if_neg c5).trans (if_pos c15))))
    obtain ⟨d1, d2, d3, d4, d5, s, d6, d7, d8, d9⟩ := d
    rw [if_pos (k11.mpr c15), Lf_67 L, ob_t]
    unfold F_X9_line_j171
    rcases d9 with ⟨x1, x2⟩ | ⟨kk, l, x1, x2, -, x4⟩
    · rw [x1, if_pos rfl, Lc_67 L, eB, bd2_t, if_neg (by decide), Lf_67 LB, ob_t]
      obtain ⟨s', N3, e0, e3, l3, w3⟩ := M_rRule (t := 1) (by omega) ce.1 dB sB (by rw [if_neg (by omega)]; exact x2)
      have e3' : F_X9_expression 67 (6 : Int32) (stI NB 67 28 (nI s')) = some N3 := e3
      rw [e0, Ls_67 LB, ob_t, Lc_67 LB.st, e3', ob_t]
      exact endL el l3 (wBG.trans w3)
    · rw [x1, if_neg (nI_nm1 (by omega)), Lc_67 L, e5, bd2_t, if_pos rfl]
      exact endL (el.trans (if_pos (by rw [if_neg (by omega), x2]; exact fun y => by cases y))) f5 (w5.mono fun _ _ => XF_G)
  · obtain ⟨N1, e1, f1, w1⟩ := M_wr (k := 1) k h (by omega) (by omega)
    have el : lnL B n G q = .inr (1, plT B n q) := (if_neg c1).trans ((if_neg c2).trans ((if_neg c4).trans ((if_neg c5).trans (if_neg c15))))
    rw [if_neg (fun y => c15 (k11.mp y)), Lc_67 L, show (1 : Int32) = nI 1 from rfl, e1, ob_t]
    exact endL el f1 (w1.mono fun _ _ => XF_G)
theorem M_read (hB : ∀ i, i < n → B i < 256) : ∀ (m : Nat) (G : Gt) (q : Nat) (N : Mem), GdG G → LnM B n N (.inl (G, q)) → 700 ≤ q + m → ∃ N', loop (fun z => F_X9_town_s112 67 z) N = some N' ∧ LnM B n N' (rdL B n m G q) ∧ Fr XG N N' ∧ ∀ G' q', rdL B n m G q = .inl (G', q') → GdG G' := by
  intro m
  induction m with
  | zero =>
    intro G q N g c hm
    have L := c.1.1.1.1
    have hn := c.1.1.1.2.1
    have hq := c.1.1.2.1
    have c0 : cdT B n q = 0 := cd_0 (kd_0.mpr (by have := pl_le (B := B) hq; omega))
    refine ⟨N, loop_end ?_, c, Fr.rfl', fun G' q' e => by cases e; exact g⟩
    unfold F_X9_town_s112
    rw [Lc_67 L, M_g1 L c.1.2, ob_t, if_neg (by decide), Lf_67 L, ob_t, c.1.1.sr, if_pos ((sr_0 hq).mpr c0)]
  | succ m ih =>
    intro G q N g c hm
    have L := c.1.1.1.1
    have hq := c.1.1.2.1
    rw [rdL.eq_2]
    by_cases c0 : cdT B n q = 0
    · rw [if_pos c0]
      refine ⟨N, loop_end ?_, c, Fr.rfl', fun G' q' e => by cases e; exact g⟩
      unfold F_X9_town_s112
      rw [Lc_67 L, M_g1 L c.1.2, ob_t, if_neg (by decide), Lf_67 L, ob_t, c.1.1.sr, if_pos ((sr_0 hq).mpr c0)]
    · rw [if_neg c0]
      obtain ⟨N1, e1, l1, w1⟩ := M_line g c c0
      have turn : loop (fun z => F_X9_town_s112 67 z) N = loop (fun z => F_X9_town_s112 67 z) N1 := by
        refine loop_turn ?_
        unfold F_X9_town_s112
        rw [Lc_67 L, M_g1 L c.1.2, ob_t, if_neg (by decide), Lf_67 L, ob_t, c.1.1.sr, if_neg (fun y => c0 ((sr_0 hq).mp y)), Lc_67 L, e1, ob_t]
      have gl : ∀ G' q', lnE B n G q = .inl (G', q') → GdG G' ∧ q < q' := fun G' q' e => by
        rw [lnE_s] at e
        cases hl : lnL B n G q with
        | inr f => rw [hl] at e; cases e
        | inl x =>
          obtain ⟨G1, q1⟩ := x
          obtain ⟨z1, z2, z3⟩ := g_ln hB hq c0 g hl
          rw [hl] at e
          unfold sgE at e
          dsimp only at e
          by_cases c79 : cdT B n q1 = 79
          · rw [if_pos c79] at e
            have ce := cd_en z3 (by omega : cdT B n q1 ≠ 0)
            have e := Sum.inl.inj e
            have e1 : G1 = G' := congrArg Prod.fst e
            have e2 : enT B n q1 = q' := congrArg Prod.snd e
            exact ⟨e1 ▸ z1, by omega⟩
          · rw [if_neg c79] at e; cases e
      cases hl : lnE B n G q with
      | inr f =>
        rw [hl] at l1
        refine ⟨N1, ?_, l1, w1, fun G' q' e => by cases e⟩
        rw [turn]
        refine loop_end ?_
        unfold F_X9_town_s112
        have f1 : FtM N1 f.1 f.2 := l1
        rw [Lc_67 f1.1, f1.bad, ob_t, if_pos rfl]
      | inl x =>
        obtain ⟨G', q'⟩ := x
        rw [hl] at l1
        have gg := gl G' q' hl
        obtain ⟨N2, e2, l2, w2, g2⟩ := ih G' q' N1 gg.1 l1 (by omega)
        exact ⟨N2, by rw [turn, e2], l2, w1.trans w2, g2⟩
end
