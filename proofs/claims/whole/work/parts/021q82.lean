/-! ===== a rule is read: both alike, whole ===== -/
section
variable {N N' N1 N2 : Mem} {B : Nat → Nat} {n t b q dp d L : Nat} {o : List (Int32 × Int32)} {w : List Nat} {te : Nat → Nat} {X : Nat → Nat → Prop} {σ : Ps}
theorem R_nt : ∀ m i (σ : Ps) (N : Mem) (w : List Nat), i + m = 6 → RC B n t b N σ.2.1 o w dp te → BD b σ.2.1 o w → ∃ N', loop (fun s : Int32 × Mem => F_X9_operand_s18 67 1 s.1 s.2) (nI i, N) = loop (fun s : Int32 × Mem => F_X9_operand_s18 67 1 s.1 s.2) (nI (i + (ntP B n m σ).1), N') ∧ RC B n t b N' (ntP B n m σ).2.2.1 o (List.replicate (ntP B n m σ).1 3 ++ w) dp te ∧ BD b (ntP B n m σ).2.2.1 o (List.replicate (ntP B n m σ).1 3 ++ w) ∧ ((ntP B n m σ).1 < m → cdT B n (ntP B n m σ).2.2.1 ≠ 12) ∧ Fr (XT b) N N' := by
  intro m
  induction m with
  | zero => intro i σ N w hi r hb; exact ⟨N, rfl, r, hb, fun y => absurd y (Nat.not_lt_zero _), Fr.rfl'⟩
  | succ m ih =>
    intro i σ N w hi r hb
    rw [ntP.eq_2]
    by_cases c : cdT B n σ.2.1 = 12
    · rw [if_pos c]
      obtain ⟨N1, N3, e1, L1, e3, r3, b3, f3⟩ := tail_n (op := 3) r hb (by omega) (by omega)
      obtain ⟨N4, e4, r4, b4, c4, f4⟩ := ih (i + 1) (advP B n σ) N3 (3 :: w) (by omega) r3 b3
      have ap : List.replicate (ntP B n m (advP B n σ)).1 3 ++ 3 :: w = List.replicate ((ntP B n m (advP B n σ)).1 + 1) 3 ++ w := by
        rw [List.replicate_succ', List.append_assoc]; rfl
      rw [ap] at r4 b4
      refine ⟨N4, ?_, r4, b4, fun y => c4 (by have y : (ntP B n m (advP B n σ)).1 + 1 < m + 1 := y; omega), f3.trans f4⟩
      rw [loop_turn (s' := (nI (i + 1), N3)), e4]
      · show _ = loop _ (nI (i + ((ntP B n m (advP B n σ)).1 + 1)), N4)
        rw [show i + 1 + (ntP B n m (advP B n σ)).1 = i + ((ntP B n m (advP B n σ)).1 + 1) by omega]
      · dsimp only
        unfold F_X9_operand_s18
        rw [Lc_67 r.lay, r.good, ob_t, if_neg (by decide), if_neg (by decide), Lc_67 r.lay, r.1.kw, ob_t, if_pos (show kwI (cdT B n σ.2.1) = (14 : Int32) from (r.1.kwe (k := 14) (by omega)).mpr c), if_neg (neL6 (by omega) (by omega))]
        unfold F_X9_operand_j50_18
        rw [Lc_67 r.lay, r.good, ob_t, if_neg (by decide), Lc_67 r.lay, show (3 : Int32) = nI 3 from rfl, e1, ob_t, Lc_67 L1, e3, ob_t, nI_1]
    · rw [if_neg c]
      exact ⟨N, rfl, r, hb, fun _ => c, Fr.rfl'⟩
theorem R_not (hk : σ.2.2.1 = 0) (r : RC B n t b N σ.2.1 o w dp te) (hb : BD b σ.2.1 o w) : ((ntQ B n σ).2.2.2.1 = 0 → ∃ N', F_X9_operand 67 1 N = F_X9_operand 67 0 N' ∧ RC B n t b N' (ntQ B n σ).2.2.1 o (List.replicate (ntQ B n σ).1 3 ++ w) dp te ∧ BD b (ntQ B n σ).2.2.1 o (List.replicate (ntQ B n σ).1 3 ++ w) ∧ Fr (XT b) N N') ∧ ((ntQ B n σ).2.2.2.1 ≠ 0 → ∃ NF, F_X9_operand 67 1 N = some NF ∧ loopE NF = some NF ∧ RF b NF (ntQ B n σ).2.2.2.1 (ntQ B n σ).2.2.2.2 ∧ Fr (XT b) N NF) := by
  have hn := r.nq
  obtain ⟨N1, e1, r1, b1, c1, f1⟩ := R_nt 6 0 σ N w rfl r hb
  obtain ⟨a1, a2, a3, a4, a5⟩ := nt_b (B := B) 6 σ hn.2
  rw [Nat.zero_add, show nI 0 = (0 : Int32) from rfl] at e1
  unfold ntQ
  by_cases c : (ntP B n 6 σ).1 = 6 ∧ cdT B n (ntP B n 6 σ).2.2.1 = 12
  · rw [if_pos c]
    have k0 : (ntP B n 6 σ).2.2.2.1 = 0 := by rw [a2]; exact hk
    have fe : failP B n 2 (ntP B n 6 σ).2 = ((ntP B n 6 σ).2.1, (ntP B n 6 σ).2.2.1, 2, plT B n (ntP B n 6 σ).2.2.1) := by unfold failP; rw [if_pos k0]
    rw [fe]
    refine ⟨fun y => absurd y (show (2 : Nat) ≠ 0 by omega), fun _ => ?_⟩
    obtain ⟨rf, ff⟩ := r1.flt b1 (k := 2) (by omega) (by omega)
    have nz : mI (stI (stI N1 67 13 (nI 2)) 67 14 (nI (plT B n (ntP B n 6 σ).2.2.1))) 67 13 ≠ 0 := by rw [mI_sn (by omega), mI_se]; decide
    have bd := rf.bad nz
    have bg := M_bad rf.1 nz
    refine ⟨_, ?_, bd.2, rf, f1.trans ff⟩
    have e2 : loop (fun s : Int32 × Mem => F_X9_operand_s18 67 1 s.1 s.2) ((0 : Int32), N) = some (stI (stI N1 67 13 (nI 2)) 67 14 (nI (plT B n (ntP B n 6 σ).2.2.1))) := by
      rw [e1, c.1, loop_turn (s' := (nI (6 + 1), stI (stI N1 67 13 (nI 2)) 67 14 (nI (plT B n (ntP B n 6 σ).2.2.1))))]
      · refine loop_end ?_
        dsimp only
        unfold F_X9_operand_s18
        rw [Lc_67 rf.1, bg, ob_t, if_pos rfl]
      · dsimp only
        unfold F_X9_operand_s18
        rw [Lc_67 r1.lay, r1.good, ob_t, if_neg (by decide), if_neg (by decide), Lc_67 r1.lay, r1.1.kw, ob_t, if_pos (show kwI (cdT B n (ntP B n 6 σ).2.2.1) = (14 : Int32) from (r1.1.kwe (k := 14) (by omega)).mpr c.2), if_pos (by decide), Lc_67 r1.lay, show (2 : Int32) = nI 2 from rfl, r1.wrong, ob_t]
        unfold F_X9_operand_j50_18
        rw [Lc_67 rf.1, bg, ob_t, if_pos rfl, nI_1]
    have e3 : loop (fun s : Int32 × Int32 × Mem => F_X9_operand_s4 67 s.1 s.2.1 s.2.2) ((1 : Int32), (1 : Int32), N) = some (stI (stI N1 67 13 (nI 2)) 67 14 (nI (plT B n (ntP B n 6 σ).2.2.1))) := by
      rw [loop_turn (s' := ((1 : Int32), (0 : Int32), stI (stI N1 67 13 (nI 2)) 67 14 (nI (plT B n (ntP B n 6 σ).2.2.1))))]
      · refine loop_end ?_
        dsimp only
        unfold F_X9_operand_s4
        rw [if_pos rfl]
      · dsimp only
        unfold F_X9_operand_s4
        rw [if_neg (by decide), Lc_67 r.lay, r.good, ob_t, if_neg (by decide), e2, ob_t]
        unfold F_X9_operand_j75_4 F_X9_operand_j95_4 F_X9_operand_j96_4
        rw [Lc_67 rf.1, bg, ob_t, if_pos rfl, if_pos rfl]
    unfold F_X9_operand
    rw [e3, ob_t, Lc_67 rf.1]
    unfold F_X9_part
    rw [Lc_67 rf.1, bg, ob_t, if_pos rfl, ob_t]
  · rw [if_neg c]
    have c12 : cdT B n (ntP B n 6 σ).2.2.1 ≠ 12 := by
      by_cases k6 : (ntP B n 6 σ).1 = 6
      · exact fun y => c ⟨k6, y⟩
      · exact c1 (by omega)
    refine ⟨fun _ => ⟨N1, ?_, r1, b1, f1⟩, fun y => absurd (by rw [a2]; exact hk) y⟩
    have e2 : loop (fun s : Int32 × Mem => F_X9_operand_s18 67 1 s.1 s.2) ((0 : Int32), N) = some N1 := by
      rw [e1]
      refine loop_end ?_
      dsimp only
      unfold F_X9_operand_s18
      rw [Lc_67 r1.lay, r1.good, ob_t, if_neg (by decide), if_neg (by decide), Lc_67 r1.lay, r1.1.kw, ob_t, if_neg (show ¬ kwI (cdT B n (ntP B n 6 σ).2.2.1) = (14 : Int32) from fun y => c12 ((r1.1.kwe (k := 14) (by omega)).mp y))]
    by_cases h60 : cdT B n (ntP B n 6 σ).2.2.1 = 60
    · obtain ⟨N2, N3, g1, L2, g2, r3, b3, f3⟩ := tail_n (op := 14) r1 b1 (by omega) (by omega)
      have ex : ∃ N4, F_X9_deeper 67 N3 = some N4 := by
        by_cases d6 : dp < 6
        · obtain ⟨N4, e4, -⟩ := r3.deep d6
          exact ⟨N4, e4⟩
        · have : dp = 6 := by have := r3.2.2.2.2.1.2.1; omega
          subst this
          exact ⟨_, r3.deep'.trans r3.wrong⟩
      obtain ⟨N4, e4⟩ := ex
      rw [op_open r1 h60 g1 L2 g2 r3.lay e4]
      have e : loop (fun s : Int32 × Int32 × Mem => F_X9_operand_s4 67 s.1 s.2.1 s.2.2) ((1 : Int32), (1 : Int32), N) = loop (fun s : Int32 × Int32 × Mem => F_X9_operand_s4 67 s.1 s.2.1 s.2.2) ((1 : Int32), (1 : Int32), N4) := by
        refine loop_turn ?_
        dsimp only
        unfold F_X9_operand_s4
        rw [if_neg (by decide), Lc_67 r.lay, r.good, ob_t, if_neg (by decide), e2, ob_t]
        unfold F_X9_operand_j75_4
        rw [Lc_67 r1.lay, r1.good, ob_t, if_neg (by decide), Lc_67 r1.lay, show (40 : Int32) = nI 40 from rfl, r1.1.isS (c := 40) (by unfold sgS; omega), ob_t, if_pos h60, if_neg (by decide)]
        unfold F_X9_operand_j96_4
        rw [if_neg (by decide), Lc_67 r1.lay, show (14 : Int32) = nI 14 from rfl, g1, ob_t, Lc_67 L2, g2, ob_t, Lc_67 r3.lay, e4, ob_t]
      unfold F_X9_operand
      rw [e]
    · rw [op_part r1 (Or.inl rfl) h60]
      have e : loop (fun s : Int32 × Int32 × Mem => F_X9_operand_s4 67 s.1 s.2.1 s.2.2) ((1 : Int32), (1 : Int32), N) = some N1 := by
        rw [loop_turn (s' := ((1 : Int32), (0 : Int32), N1))]
        · refine loop_end ?_
          dsimp only
          unfold F_X9_operand_s4
          rw [if_pos rfl]
        · dsimp only
          unfold F_X9_operand_s4
          rw [if_neg (by decide), Lc_67 r.lay, r.good, ob_t, if_neg (by decide), e2, ob_t]
          unfold F_X9_operand_j75_4
          rw [Lc_67 r1.lay, r1.good, ob_t, if_neg (by decide), Lc_67 r1.lay, show (40 : Int32) = nI 40 from rfl, r1.1.isS (c := 40) (by unfold sgS; omega), ob_t, if_neg h60, if_pos rfl]
          unfold F_X9_operand_j95_4 F_X9_operand_j96_4
          rw [if_pos rfl]
      unfold F_X9_operand
      rw [e, ob_t, Lc_67 r1.lay]
      cases F_X9_part 67 N1 <;> rfl
theorem opL_r {m : Nat} : opL (List.replicate m 3) = (List.replicate m (-8 : Int32)).map toM := by
  unfold opL
  rw [List.map_replicate, List.map_replicate]; rfl
theorem R_sim (ht : t ≤ 1) : ∀ f d L, d ≤ 5 → L ≤ 5 → 37 ≤ 6 * d + L + f → RLs B n t b (pjP B n t f d L) d L := by
  intro f
  induction f with
  | zero => intro d L h1 h2 h3; omega
  | succ f ih =>
    intro d L h1 h2 h3
    have e : pjP B n t (f + 1) d L = tjP B n t (pjP B n t f) d L := funext fun σ => pjP.eq_2 ..
    by_cases L5 : L = 5
    · subst L5
      have e2 : pjP B n t (f + 1) d 5 = ptP B n t (pjP B n t f) d := by
        rw [e]; funext σ
        unfold tjP
        rw [if_neg (by omega), if_pos (by omega)]
      rw [e2]
      refine R_part ht h1 (fun h => ih (d + 1) 0 (by omega) (by omega) (by omega)) (fun h σ => ?_)
      cases f with
      | zero => omega
      | succ f =>
        rw [pjP.eq_2]
        unfold tjP
        rw [if_pos (by omega)]
    · have hL : L ≤ 4 := by omega
      have hR := ih d (L + 1) h1 (by omega) (by omega)
      have sd := sl_d L (by omega)
      rw [e]
      intro σ N o w te hk r hb hw ht0
      have hn := r.nq
      unfold tjP
      rw [if_neg (by omega), if_neg (by omega)]
      by_cases L2 : L = 2
      · subst L2
        rw [if_pos rfl]
        obtain ⟨z1, z2, z3, z4⟩ := ntQ_b (B := B) hn.2
        obtain ⟨q1, q2⟩ := R_not hk r hb
        by_cases k1 : (ntQ B n σ).2.2.2.1 = 0
        · obtain ⟨N', e', r', b', f'⟩ := q1 k1
          have tw : ∀ s, 4 ≤ s → TWc s (List.replicate (ntQ B n σ).1 3 ++ w) := fun s hs x v ev => by
            cases hm : (ntQ B n σ).1 with
            | zero =>
              rw [hm] at ev
              exact (hw x v ev).imp id fun y => by have : sthN x < 3 := y; omega
            | succ m =>
              rw [hm, List.replicate_succ] at ev
              have : x = 3 := (List.cons.inj ev).1.symm
              rw [this]; exact Or.inr (Nat.lt_of_lt_of_le (by decide) hs)
          obtain ⟨g1, g2⟩ := hR (ntQ B n σ).2 N' o (List.replicate (ntQ B n σ).1 3 ++ w) te k1 r' b' (tw 5 (by omega)) (fun y => by omega)
          by_cases k2 : (pjP B n t f d (2 + 1) (ntQ B n σ).2).2.2.1 = 0
          · obtain ⟨c, N0, N1, P1, o1, te1, y1, y2, y3, y4, y5, y6, y7, y8, y9, y10, y11⟩ := g1 k2
            obtain ⟨j1, j2⟩ := R_jl (L := 2) (d := d) (by omega) (fun σ hσ => pj_b (B := B) (t := t) f d (2 + 1) σ hσ) hR 1 _ N1 o1 (List.replicate (ntQ B n σ).1 3 ++ w) te1 P1 c o k2 y4 y5 (y6.m (by decide)) (tw 4 (by omega)) y7 y10 (Or.inl ⟨rfl, Or.inl ⟨rfl, by rw [y9 (by omega)]; exact ht0 (by omega)⟩⟩)
            constructor
            · intro kz
              obtain ⟨c', N2, P2, o2, te2, x1, x2, x3, x4, x5, x6, x7, x8, x9, x10⟩ := j1 kz
              have ap : P2 ++ (List.replicate (ntQ B n σ).1 3 ++ w) = (P2 ++ List.replicate (ntQ B n σ).1 3) ++ w := (List.append_assoc ..).symm
              rw [ap] at x3 x4
              refine ⟨c ++ c' ++ List.replicate (ntQ B n σ).1 (-8), N0, N2, P2 ++ List.replicate (ntQ B n σ).1 3, o2, te2, ?_, e'.trans y2, y3.trans x2, x3, x4, fun x hx => ?_, ?_, fun j hj => by rw [x7 j hj, y8 j hj], fun y => by omega, x9, (f'.trans y11).trans x10⟩
              · show (jlP B n (pjP B n t f) d 2 1 (pjP B n t f d (2 + 1) (ntQ B n σ).2)).1 ++ List.replicate (ntQ B n σ).1 (-8) = _
                rw [x1, y1, z1]; simp only [List.append_assoc]
              · rcases List.mem_append.mp hx with hx | hx
                · exact x5.m (by decide) x hx
                · rw [(List.mem_replicate.mp hx).2]; decide
              · rw [opL_a, ← List.append_assoc, x6, List.map_append, List.map_append, opL_r, List.map_append]; simp only [List.append_assoc]
            · intro kz
              obtain ⟨NF, x1, x2, x3⟩ := j2 kz
              exact ⟨N0, NF, e'.trans y2, y3.trans x1, x2, (f'.trans y11).trans x3⟩
          · obtain ⟨N0, NF, y1, y2, y3, y4⟩ := g2 k2
            rw [jl_k 1 _ k2]
            exact ⟨fun y => absurd y k2, fun _ => ⟨N0, NF, e'.trans y1, y2, y3, f'.trans y4⟩⟩
        · obtain ⟨NF, y1, y2, y3, y4⟩ := q2 k1
          have pk := pj_k (B := B) (t := t) f d (2 + 1) (ntQ B n σ).2 z3 k1
          have kk : (pjP B n t f d (2 + 1) (ntQ B n σ).2).2.2.1 ≠ 0 := by rw [pk]; exact k1
          rw [jl_k 1 _ kk]
          refine ⟨fun y => absurd y kk, fun _ => ⟨NF, NF, y1, y2, ?_, y4⟩⟩
          show RF b NF (pjP B n t f d (2 + 1) (ntQ B n σ).2).2.2.1 (pjP B n t f d (2 + 1) (ntQ B n σ).2).2.2.2
          rw [pk]; exact y3
      · rw [if_neg L2]
        have oj : opJ L = opJ (L + 1) := by
          unfold opJ
          by_cases h : L ≤ 1
          · rw [if_pos (by omega), if_pos (by omega)]
          · rw [if_neg (by omega), if_neg (by omega)]
        have ds : dsL L = slL L := by
          have : L = 0 ∨ L = 1 ∨ L = 3 ∨ L = 4 := by omega
          rcases this with rfl | rfl | rfl | rfl <;> rfl
        obtain ⟨g1, g2⟩ := hR σ N o w te hk r hb (hw.m sd.2.2) (fun y => ht0 (by omega))
        by_cases k2 : (pjP B n t f d (L + 1) σ).2.2.1 = 0
        · obtain ⟨c, N0, N1, P1, o1, te1, y1, y2, y3, y4, y5, y6, y7, y8, y9, y10, y11⟩ := g1 k2
          obtain ⟨j1, j2⟩ := R_jl (L := L) (d := d) hL (fun σ hσ => pj_b (B := B) (t := t) f d (L + 1) σ hσ) hR 700 _ N1 o1 w te1 P1 c o k2 y4 y5 (y6.m (by omega)) (by rw [ds]; exact hw) y7 y10 (Or.inr ⟨L2, by omega⟩)
          constructor
          · intro kz
            obtain ⟨c', N2, P2, o2, te2, x1, x2, x3, x4, x5, x6, x7, x8, x9, x10⟩ := j1 kz
            rw [ds] at x5
            exact ⟨c ++ c', N0, N2, P2, o2, te2, by rw [x1, y1, List.append_assoc], by rw [oj]; exact y2, y3.trans x2, x3, x4, x5, x6, fun j hj => by rw [x7 j hj, y8 j hj], fun l => by rw [x8 l, y9 (by omega)], x9, y11.trans x10⟩
          · intro kz
            obtain ⟨NF, x1, x2, x3⟩ := j2 kz
            exact ⟨N0, NF, by rw [oj]; exact y2, y3.trans x1, x2, y11.trans x3⟩
        · obtain ⟨N0, NF, y1, y2, y3, y4⟩ := g2 k2
          rw [jl_k 700 _ k2]
          exact ⟨fun y => absurd y k2, fun _ => ⟨N0, NF, by rw [oj]; exact y1, y2, y3, y4⟩⟩
end
