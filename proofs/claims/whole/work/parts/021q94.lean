/-! ===== a text is read: the class, damp and rules ===== -/
section
variable {M M' M1 M2 N N' : Mem} {B : Nat → Nat} {n q p t : Nat} {X Y : Nat → Nat → Prop} {G : Gt}
def XD (p k j : Nat) : Prop := XN k j ∨ (k = p ∧ j = 2) ∨ k = p + 7
theorem XN_D {k j : Nat} (h : XN k j) : XD p k j := Or.inl h
theorem XD_H {k j : Nat} (h : XD p k j) : XH p k j := by unfold XD at h; unfold XH; rcases h with h | h | h; exact Or.inl h; exact Or.inr (by omega); exact Or.inr (by omega)
def LnD (B : Nat → Nat) (n p : Nat) (M : Mem) : ((Nat → Int32) × Nat × Nat) ⊕ (Nat × Nat) → Prop
  | .inl (dam, D, q) => StC B n M (.inl q) ∧ mI M p 2 = nI D ∧ (∀ j, j < D → mI M (p + 7) j = dam j) ∧ D ≤ 8
  | .inr f => CFt B n M f.1 f.2
theorem dm_r {m D : Nat} {dam : Nat → Int32} {f : Nat × Nat} : dmL B n m dam D (.inr f) = .inr f := by cases m <;> rfl
theorem C_j87 {k a : Nat} (h : CFt B n M k a) : F_X3_dampLine_j87 1 M = some M := by
  unfold F_X3_dampLine_j87
  rw [Lf_1 h.1, ob_t, Lc_1 h.1, C_fl' h, ob_t]
  split <;> rfl
theorem C_dloop (hp : p = 4 ∨ p = 14) : ∀ (m i : Nat) (s : RsT) (dam : Nat → Int32) (M : Mem), i + m = 8 → StC B n M s → mI M p 2 = nI i → (∀ q, s = .inl q → ∀ j, j < i → mI M (p + 7) j = dam j) → ∃ M', (loop (fun z : Int32 × Mem => F_X3_dampLine_s37 1 p z.1 z.2) (nI i, M)).bind (fun M39 => F_X3_dampLine_j87 1 M39) = some M' ∧ LnD B n p M' (dmL B n m dam i s) ∧ Fr (XD p) M M' := by
  intro m
  induction m with
  | zero =>
    intro i s dam M hi c h2 hd
    have L := c.lay
    have e : loop (fun z : Int32 × Mem => F_X3_dampLine_s37 1 p z.1 z.2) (nI i, M) = some M := loop_end (by
      dsimp only
      unfold F_X3_dampLine_s37
      rw [if_pos (show (8 : Int32) ≤ nI i from nI_le (a := 8) (by omega) (by omega))])
    rw [e, ob_t]
    cases s with
    | inr f => exact ⟨M, C_j87 c, by rw [dm_r]; exact c, Fr.rfl'⟩
    | inl q =>
      unfold F_X3_dampLine_j87
      rw [c.1.kind, ob_t]
      by_cases k3 : cdT B n q = 17 ∨ 1000 ≤ cdT B n q
      · obtain ⟨M', e1, f1, w1, -⟩ := C_fl (k := 2) c.1 c.2 (by omega) (by omega)
        rw [if_pos (c.1.k3.mpr k3), Lc_1 L, show (2 : Int32) = nI 2 from rfl, e1, ob_t]
        refine ⟨M', rfl, ?_, w1.mono fun _ _ => XN_D⟩
        have : dmL B n 0 dam i (.inl q) = .inr (2, plT B n q) := if_pos k3
        rw [this]; exact f1
      · rw [if_neg (fun y => k3 (c.1.k3.mp y))]
        refine ⟨M, rfl, ?_, Fr.rfl'⟩
        have : dmL B n 0 dam i (.inl q) = .inl (dam, i, q) := if_neg k3
        rw [this]; exact ⟨c, h2, hd q rfl, by omega⟩
  | succ m ih =>
    intro i s dam M hi c h2 hd
    have L := c.lay
    have nN : ∀ k j, k ≠ 1 → ¬ XN k j := fun k j hk y => hk y.1
    cases s with
    | inr f =>
      have e : loop (fun z : Int32 × Mem => F_X3_dampLine_s37 1 p z.1 z.2) (nI i, M) = some M := loop_end (by
        dsimp only
        unfold F_X3_dampLine_s37
        rw [if_neg (show ¬ (8 : Int32) ≤ nI i from nI_ge (b := 8) (by omega) (by omega)), Lf_1 L, ob_t, c.2.1, if_neg (neL0 (by have := c.2.2.2.1; omega) (by have := c.2.2.2.1; omega))])
      rw [e, ob_t]
      exact ⟨M, C_j87 c, by rw [dm_r]; exact c, Fr.rfl'⟩
    | inl q =>
      by_cases k3 : cdT B n q = 17 ∨ 1000 ≤ cdT B n q
      · have ed : dmL B n (m + 1) dam i (.inl q) = dmL B n m (upg dam i (nvT B n q)) (i + 1) (numS B n 0 9 (.inl q)) := if_pos k3
        obtain ⟨x, M1, e1, s1, w1, v1⟩ := C_number (lo := 0) (hi := 9) (by omega) (by omega) c
        have L1 := s1.lay
        have o1 : ∀ k, k ≠ 1 → mI M1 k = mI M k := fun k hk => funext fun j => w1.at (nN k j hk)
        obtain ⟨M2, e2, s2, w2⟩ := ih (i + 1) (numS B n 0 9 (.inl q)) (upg dam i (nvT B n q)) (stI (stI M1 (p + 7) i x) p 2 (nI (i + 1))) (by omega) ((s1.st (by omega) (by omega)).st (by omega) (by omega)) mI_se (fun q' hq' j hj => by
          rw [mI_sn (by omega)]
          by_cases e : j = i
          · subst e; rw [mI_se, upg_eq]; exact v1 _ _ rfl hq'
          · rw [mI_sn (by omega), o1 _ (by omega), upg_ne e]; exact hd q rfl j (by omega))
        have f1 : Fr (XD p) M (stI (stI M1 (p + 7) i x) p 2 (nI (i + 1))) := ((w1.mono fun _ _ => XN_D).st (Or.inr (Or.inr rfl))).st (Or.inr (Or.inl ⟨rfl, rfl⟩))
        rw [ed]
        refine ⟨M2, ?_, s2, f1.trans w2⟩
        rw [loop_turn (s' := (nI (i + 1), stI (stI M1 (p + 7) i x) p 2 (nI (i + 1)))), e2]
        dsimp only
        unfold F_X3_dampLine_s37
        have e1' : F_X3_takeNumber 1 (0 : Int32) (9 : Int32) M = some (x, M1) := e1
        rw [if_neg (show ¬ (8 : Int32) ≤ nI i from nI_ge (b := 8) (by omega) (by omega)), Lf_1 L, ob_t, c.2, if_pos rfl, c.1.kind, ob_t, if_pos (c.1.k3.mpr k3), P_9 L hp, ob_t, Lc_1 L, e1', bd2_t, P_w L1 hp (by omega) (by omega) (by omega), ob_t, P_f L1.st hp, ob_t, mI_sn (by omega), o1 p (by omega), h2, nI_1, P_s L1.st hp, ob_t]
      · have e : loop (fun z : Int32 × Mem => F_X3_dampLine_s37 1 p z.1 z.2) (nI i, M) = some M := loop_end (by
          dsimp only
          unfold F_X3_dampLine_s37
          rw [if_neg (show ¬ (8 : Int32) ≤ nI i from nI_ge (b := 8) (by omega) (by omega)), Lf_1 L, ob_t, c.2, if_pos rfl, c.1.kind, ob_t, if_neg (fun y => k3 (c.1.k3.mp y))])
        rw [e, ob_t]
        unfold F_X3_dampLine_j87
        rw [c.1.kind, ob_t, if_neg (fun y => k3 (c.1.k3.mp y))]
        refine ⟨M, rfl, ?_, Fr.rfl'⟩
        have : dmL B n (m + 1) dam i (.inl q) = .inl (dam, i, q) := if_neg k3
        rw [this]; exact ⟨c, h2, hd q rfl, by omega⟩
theorem C_damp (hp : p = 4 ∨ p = 14) (c : LnC B n p M (.inl (G, q))) : ∃ M', F_X3_dampLine 1 p M = some M' ∧ LnC B n p M' (dpL B n G q) ∧ Fr (XH p) M M' := by
  obtain ⟨⟨t, h3⟩, d1, d2, d3, d4, d5, d6, d7⟩ := c
  have L := t.1.1
  have nN : ∀ k j, k ≠ 1 → ¬ XN k j := fun k j hk y => hk y.1
  have hX : ∀ k j, NC ≤ k → ¬ XH p k j := fun k j hk y => by
    have hk : 98 ≤ k := hk
    rcases y with y | y
    · have := y.1; omega
    · omega
  unfold F_X3_dampLine dpL
  rw [P_f L hp, ob_t, d1.2.2]
  by_cases h8 : 0 < tD G
  · obtain ⟨M', e, f, w, -⟩ := C_fl (k := 5) t h3 (by omega) (by omega)
    rw [if_neg (show ¬ nI (tD G) ≤ 0 from nI_ge (a := 0) h8 (by omega)), Lc_1 L, show (5 : Int32) = nI 5 from rfl, e, ob_t, if_pos h8]
    exact ⟨M', rfl, f, w.mono fun _ _ => XN_H⟩
  · obtain ⟨M1, e1, s1, w1⟩ := C_ad t h3
    have L1 := s1.lay
    obtain ⟨x1, M2, e2, s2, w2, v1⟩ := C_number (lo := 0) (hi := 9) (by omega) (by omega) s1
    have L2 := s2.lay
    have o1 : ∀ k, k ≠ 1 → mI M1 k = mI M k := fun k hk => funext fun j => w1.at (nN k j hk)
    have o2 : ∀ k, k ≠ 1 → mI M2 k = mI M1 k := fun k hk => funext fun j => w2.at (nN k j hk)
    obtain ⟨M3, e3, s3, w3⟩ := C_dloop (B := B) (n := n) hp 7 1 (numS B n 0 9 (.inl (enT B n q))) (upg (tDam G) 0 (nvT B n (enT B n q))) (stI (stI M2 (p + 7) 0 x1) p 2 (nI 1)) (by omega) ((s2.st (by omega) (by omega)).st (by omega) (by omega)) mI_se (fun q' hq' j hj => by
      have : j = 0 := by omega
      subst this
      rw [mI_sn (by omega), mI_se, upg_eq]; exact v1 _ _ rfl hq')
    have e2' : F_X3_takeNumber 1 (0 : Int32) (9 : Int32) M1 = some (x1, M2) := e2
    have f2 : Fr (XD p) M (stI (stI M2 (p + 7) 0 x1) p 2 (nI 1)) := (((w1.trans w2).mono fun _ _ => XN_D).st (Or.inr (Or.inr rfl))).st (Or.inr (Or.inl ⟨rfl, rfl⟩))
    have f3 : Fr (XD p) M M3 := f2.trans w3
    have fh : Fr (XH p) M M3 := f3.mono fun _ _ => XD_H
    have pw : sI M2 100 (p + 7) (0 : Int32) x1 = some (stI M2 (p + 7) 0 x1) := P_w (i := 0) L2 hp (by omega) (by omega) (by omega)
    have e3' : (loop (fun z : Int32 × Mem => F_X3_dampLine_s37 1 p z.1 z.2) ((1 : Int32), stI (stI M2 (p + 7) 0 x1) p 2 (1 : Int32))).bind (fun M39 => F_X3_dampLine_j87 1 M39) = some M3 := e3
    rw [if_pos (show nI (tD G) ≤ 0 from nI_le (b := 0) (by omega) (by omega)), Lc_1 L, e1, ob_t, P_9 L1 hp, ob_t, Lc_1 L1, e2', bd2_t, pw, ob_t, P_s L2.st hp, ob_t, e3', if_neg h8]
    refine ⟨M3, rfl, ?_, fh⟩
    cases hs : dmL B n 7 (upg (tDam G) 0 (nvT B n (enT B n q))) 1 (numS B n 0 9 (.inl (enT B n q))) with
    | inr f => rw [hs] at s3; exact s3
    | inl r =>
      obtain ⟨dam, D, q'⟩ := r
      rw [hs] at s3
      obtain ⟨s3, g1, g2, g3⟩ := s3
      have oo : ∀ k, k ≠ 1 → k ≠ p → k ≠ p + 7 → mI M3 k = mI M k := fun k k1 k2 k3 => funext fun j => f3.at (by unfold XD XN; omega)
      refine ⟨s3, ⟨?_, ?_, g1⟩, ⟨d2.1, d2.2.1, g3⟩, fun h hh => ?_, fun i hi => ?_, g2, ?_, ?_⟩
      · rw [f3.at (by unfold XD XN; omega)]; exact d1.1
      · rw [f3.at (by unfold XD XN; omega)]; exact d1.2.1
      · rw [oo _ (by omega) (by omega) (by omega), oo _ (by omega) (by omega) (by omega), oo _ (by omega) (by omega) (by omega)]; exact d3 h hh
      · rw [oo _ (by omega) (by omega) (by omega), oo _ (by omega) (by omega) (by omega), oo _ (by omega) (by omega) (by omega)]; exact d4 i hi
      · rw [fh.2.1]; exact d6.fr fh hX
      · rw [fh.2.1]; exact d7.fr fh hX
theorem new_rule {len : Nat} (L : Lay M) (h10 : mI M 1 10 = nI len) (hl : len < 700) (r1 : M.1.length + 2 ≤ CLM) (r2 : mS M + 1 + len ≤ SLM) : ∃ M', (∀ K : Mem → Option Mem, ((nO M 4 1).bind fun M16 => (gP M16 3 1 9).bind fun v18 => (gI M16 3 1 10).bind fun v20 => bd2 (F_J7_copyOf_59c91 v18 v20 M16) fun v24 M23 => (F_X4_init M.1.length v24 M23).bind fun M26 => K M26) = K M') ∧ M'.1 = M.1 ++ [(4, 0)] ++ [(100, len)] ∧ mS M' = mS M + 1 + len ∧ (∀ k, k < M.1.length → mI M' k = mI M k ∧ mP M' k = mP M k) ∧ mP M' M.1.length 0 = some (M.1.length + 1) ∧ ∀ i, i < len → mI M' (M.1.length + 1) i = mI M 3 i := by
  have hlen := L.len
  have L1 : Lay (nwM M (4, 0) 1) := L.kp nw_kp (fun _ _ y => y)
  have l1 : (nwM M (4, 0) 1).1.length = M.1.length + 1 := len_nw
  have t3 : (nwM M (4, 0) 1).1[3]? = some (100, 700) := L1.t rfl
  have t3' : (nwM (nwM M (4, 0) 1) (100, len) len).1[3]? = some (100, 700) := tg_nw t3
  have tk : (nwM (nwM M (4, 0) 1) (100, len) len).1[M.1.length + 1]? = some (100, len) := by rw [← l1]; exact tg_nw'
  have t4 : (nwM (nwM M (4, 0) 1) (100, len) len).1[M.1.length]? = some (4, 0) := tg_nw tg_nw'
  refine ⟨stP (stR (nwM (nwM M (4, 0) 1) (100, len) len) (M.1.length + 1) (va_cpy (mI (nwM (nwM M (4, 0) 1) (100, len) len) 3) (mI (nwM (nwM M (4, 0) 1) (100, len) len) (M.1.length + 1)) 0 0 len)) M.1.length 0 (some (M.1.length + 1)), fun K => ?_, rfl, rfl, fun k hk => ⟨?_, ?_⟩, ?_, fun i hi => ?_⟩
  · have cp : F_J7_copyOf_59c91 3 (nI len) (nwM M (4, 0) 1) = some (M.1.length + 1, stR (nwM (nwM M (4, 0) 1) (100, len) len) (M.1.length + 1) (va_cpy (mI (nwM (nwM M (4, 0) 1) (100, len) len) 3) (mI (nwM (nwM M (4, 0) 1) (100, len) len) (M.1.length + 1)) 0 0 len)) := by
      unfold F_J7_copyOf_59c91
      have mn : mnI (nI 700) (nI len) = nI len := by
        unfold mnI
        first
          | rw [if_neg (nI_ge hl (by omega))]
          | rw [if_neg (nI_nlt (by omega) (by omega))]
          | rw [if_pos (nI_le (by omega) (by omega))]
          | rw [if_pos (nI_lt hl (by omega))]
      have cI : cpI (nwM (nwM M (4, 0) 1) (100, len) len) 3 (0 : Int32) (M.1.length + 1) (0 : Int32) (nI len) = some (stR (nwM (nwM M (4, 0) 1) (100, len) len) (M.1.length + 1) (va_cpy (mI (nwM (nwM M (4, 0) 1) (100, len) len) 3) (mI (nwM (nwM M (4, 0) 1) (100, len) len) (M.1.length + 1)) 0 0 len)) := cpI_t (s := 0) (d := 0) (n := len) t3' tk (by omega) (by omega) (by omega) (by omega)
      rw [alen_t t3, ob_t, if_neg (fun y => by have := (nI_eq (by omega) (by omega)).mp y; omega), nA_t (by omega) (by rw [l1]; omega) (by rw [mS_nw]; omega), ob_t, alen_t t3', ob_t, mn, l1, cI, ob_t]
    unfold F_X4_init
    rw [nO_t (by omega) (by omega), ob_t, Lp_1_9 L1, ob_t, Lf_1 L1, ob_t, mI_nw (by omega), h10, cp, bd2_t, pQ_t (M := stR (nwM (nwM M (4, 0) 1) (100, len) len) (M.1.length + 1) _) t4, ob_t, ob_t]
  · rw [mI_stP, mI_stRne (by omega), mI_nw (by rw [l1]; omega), mI_nw hk]
  · funext j
    rw [mP_stP, if_neg (by omega), mP_stR, mP_nw (by rw [l1]; omega), mP_nw hk]
  · rw [mP_stP, if_pos ⟨rfl, rfl⟩]
  · rw [mI_stP, mI_stReq, cpy_lt hi, mI_nw (by rw [l1]; omega), mI_nw (by omega)]
end
