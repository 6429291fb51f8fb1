/-! ===== how large: both ===== -/
section
variable {M M' M1 M2 : Mem} {p m : Nat} {g : Pg} {s s' : Sg} {L L' : List Sg} {E E' : List Se} {I I' : Option (Sg × List Sg × List Se)} {R R' : Nat → Int32} {T T' : List Nat} {f f' : Int32}
theorem LF.vai {co : Option ((Int32 × Mem) ⊕ (Nat × Mem))} {mo : Mem → Option (Int32 × Mem)} {v : Int32} {hnd : Nat → Mem → Option (Int32 × Mem)} (hc : CI M p g s L E I R T f) (hm : MI M g s L E I R T f) (hr : Rm M m) (h1 : CR M co v) (h2 : ∀ N, MI N g s L E I R T f → MR N g s (mo N) v) : LF m (ckO M 8 0 (bdT co (fun v4 M3 => (sL M3 97 (0 : Int32) (v4.toInt64)).bind fun M5 => some ((0 : Int32), M5)) hnd)) mo := by
  obtain ⟨M1, e1, w1⟩ := h1
  have c1 := hc.q w1.qw
  have m1 := hm.q w1.qw (by rw [w1.m.1]; exact hm.1.2)
  obtain ⟨M2, e2, w2, z2⟩ := h2 (stL M1 97 0 (v.toInt64)) m1.out
  refine ⟨0, stL M1 97 0 (v.toInt64), v, M2, ?_, e2, c1.out.1, z2.lay, z2.2, fun _ => ?_, ?_⟩
  · rw [Lc_0 hc.1, e1, bdT_l, outL c1.1, ob_t]
  · rw [w2.2.2.2.1 97 (by omega), mL_stL, if_pos ⟨rfl, rfl⟩]
  · exact ⟨p, g, s, L, E, I, R, T, f, c1.out.q w2, m1.out.q w2 z2.1.2, ((hr.eq w1.1 w1.2.2.1).eq (M' := M2) (by rw [w2.1]; rfl) (by rw [w2.2.2.1]; rfl)).mono (by omega)⟩
theorem ag_all (hg : GdP g) : agM g s E = nI (2 ^ gH g - 1) ↔ ∀ h, h < gH g → agr g s E h := by
  constructor
  · intro z h hh
    have := (al_b hg h).mpr hh
    rw [← z] at this
    exact ((ag_bit hg h).mp this).2
  · intro z
    refine bit_eqT fun k => ?_
    rw [ag_bit hg k, al_b hg k]
    exact ⟨fun y => y.1, fun y => ⟨y, z k y⟩⟩
theorem A_large (hc : CI M p g s L E I R T f) (hm : MI M g s L E I R T f) (hr : Rm M m) (hm5 : m < 512) (x : Int32) : LF m (F_L_large 0 x 97 M) (F_X9_large 67 x) := by
  have c := hc.cq hr (by omega)
  have g1 := c.gp.1
  have g2 := c.gp.2.1
  have se := hc.2.2.2.2.2.2.2.2.2.2.1
  have hE : ∀ e, e ∈ E → e.1 < gH g ∧ e.2.1 ≤ 20 := fun e he => ⟨se.h8 e he, se.d20 e he⟩
  unfold F_L_large
  rcases ncase x 0 2 (by omega) (by omega) with ⟨a1, -, ha1, rfl⟩ | hx
  rotate_left 1
  · refine LF.thr (k := 1) (x := 1) hc hm hr ?_ (fun M1 m => ?_) (by omega) (fun N => rfl)
    · unfold CT F_X8_large
      have gx : F_X8_needWhat x (2 : Int32) M = _ := c.needW' (b := 2) hx
      rw [gx, bdV_r]
    · obtain ⟨e0, m0, -⟩ := m.zero
      have mx : F_X9_isWhat 67 x (2 : Int32) _ = _ := m0.isW' (b := 2) hx
      refine MT.mk m (v := 0) ?_
      unfold F_X9_large
      simp only [e0, ob_t, Lc_67 m0.lay, bd2_t, ifn1, mx]
      rfl
  have gc : F_X8_needWhat (nI a1) (2 : Int32) M = _ := needW (b := 2) ha1 (by omega)
  have mg : ∀ N, MZu N g s → F_X9_isWhat 67 (nI a1) (2 : Int32) N = _ := fun N z => z.isW (b := 2) ha1 (by omega)
  by_cases a2 : a1 = 2
  · subst a2
    obtain ⟨M1, e1, w1, -⟩ := c.agreeing se
    have c1 := c.c w1
    obtain ⟨b, hb⟩ : ∃ b : Int32, (b = 1 ∧ ∀ h, h < gH g → agr g s E h) ∨ (b = 0 ∧ ¬ ∀ h, h < gH g → agr g s E h) := by
      by_cases q : ∀ h, h < gH g → agr g s E h
      · exact ⟨1, Or.inl ⟨rfl, q⟩⟩
      · exact ⟨0, Or.inr ⟨rfl, q⟩⟩
    refine LF.vai (v := b) hc hm hr ⟨M1, ?_, w1⟩ (fun N hN => ?_)
    · unfold F_X8_large
      rw [gc, bdV_l, if_pos (show nI 2 = (2 : Int32) from rfl), Lc_0 c.1, e1, bd2_t, Lc_0 c1.1, c1.allH, ob_t]
      rcases hb with ⟨q1, q2⟩ | ⟨q1, q2⟩
      · rw [if_pos ((ag_all c.gp).mpr q2), q1]
      · rw [if_neg (fun y => q2 ((ag_all c.gp).mp y)), q1]
    · obtain ⟨e0, z0, w0⟩ := hN.1.zero
      obtain ⟨M2, e2, m2, w2⟩ := z0.tries'
      have q0 : SeM (stI N 67 0 0) (mI (stI N 67 0 0) 67 51) 91 E := SeM.qw hN.2.2.1 w0
      obtain ⟨⟨r, M3⟩, e3, m3, w3, -, h3⟩ := M_isSeen m2 (q0.qw w2.qw) hE
      dsimp only at m3 w3 h3
      refine ⟨M3, ?_, (w0.trans w2.qw).trans w3, m3⟩
      unfold F_X9_large
      rw [e0, ob_t, Lc_67 z0.lay, mg _ z0, bd2_t, if_neg (by decide), if_pos (show nI 2 = (2 : Int32) from rfl), Lc_67 z0.lay, e2, ob_t, Lc_67 m2.1.lay, e3, bd2_t]
      rw [al_ag (fun e he => (hE e he).1)] at h3
      rcases h3 with ⟨y1, y2, -⟩ | ⟨y1, y2⟩
      · rcases hb with ⟨q1, -⟩ | ⟨-, q2⟩
        · rw [y1, if_neg (by decide), q1]
        · exact absurd y2 q2
      · rcases hb with ⟨-, q2⟩ | ⟨q1, -⟩
        · exact absurd q2 y2
        · rw [y1, if_pos rfl, q1]
  · obtain ⟨M1, e1, w1, x1⟩ := c.find se
    have c1 := c.c w1
    obtain ⟨⟨r1, r2⟩, e2, h1, h2⟩ := c1.largeL x1
    dsimp only at h1 h2
    have n2 : ¬ nI a1 = (2 : Int32) := fun z => a2 ((nI_eq (b := 2) (by omega) (by omega)).mp z)
    refine LF.vai (v := if a1 = 0 then r1 else r2) hc hm hr ⟨M1, ?_, w1⟩ (fun N hN => ?_)
    · unfold F_X8_large
      rw [gc, bdV_l, if_neg n2, Lc_0 c.1, e1, ob_t, e2, ob_t, u2_t]
      have : a1 = 0 ∨ a1 = 1 := by omega
      rcases this with rfl | rfl <;> rfl
    · obtain ⟨e0, z0, w0⟩ := hN.1.zero
      have q0 : SeM (stI N 67 0 0) (mI (stI N 67 0 0) 67 51) 91 E := SeM.qw hN.2.2.1 w0
      obtain ⟨⟨t1, t2, M3⟩, e3, k1, k2, m3, w3⟩ := z0.largeL q0 hE
      dsimp only at k1 k2 m3 w3
      refine ⟨M3, ?_, w0.trans w3, m3⟩
      unfold F_X9_large
      rw [e0, ob_t, Lc_67 z0.lay, mg _ z0, bd2_t, if_neg (by decide), if_neg n2, e3, ob_t, u3_t, k1, ← h1, k2.uniq h2]
      have : a1 = 0 ∨ a1 = 1 := by omega
      rcases this with rfl | rfl <;> rfl
end
