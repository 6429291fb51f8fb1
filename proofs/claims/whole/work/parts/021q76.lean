/-! ===== a rule is read: what the reference does, step by step ===== -/
section
variable {N N' N1 N2 : Mem} {B : Nat → Nat} {n t b q dp : Nat} {o : List (Int32 × Int32)} {w : List Nat} {te : Nat → Nat} {X : Nat → Nat → Prop}
noncomputable def loopE (N : Mem) : Option Mem := loop (fun s : Int32 × Mem => F_X9_expression_s34 67 s.1 s.2) ((1 : Int32), N)
theorem RC.good (r : RC B n t b N q o w dp te) : F_X9_isGood 67 N = some 1 := by
  unfold F_X9_isGood; rw [Lf_67 r.lay, ob_t, r.2.1, if_pos rfl]
theorem M_bad (L : Lay N) (h : mI N 67 13 ≠ 0) : F_X9_isGood 67 N = some 0 := by
  unfold F_X9_isGood; rw [Lf_67 L, ob_t, if_neg h]
theorem opn_l {f : Nat → Int32} (L : Lay N) (hf : mI N 81 = f) : ∀ v : List Nat, stW f v → (∀ x ∈ v, x ≤ 14) → v.length ≤ 950 → ∃ r, loop (fun s => F_X9_isOpened_s7 67 N s) (nI v.length - 1) = some r ∧ ((r < 0 ∧ 14 ∉ v) ∨ (¬ r < 0 ∧ 14 ∈ v))
  | [], _, _, _ => ⟨nI ([] : List Nat).length - 1, loop_end (by unfold F_X9_isOpened_s7; rw [if_pos (by decide)]), Or.inl ⟨by decide, by simp⟩⟩
  | x :: v, h, hx, hl => by
    rw [List.length_cons] at hl
    have sb : nI (x :: v).length - (1 : Int32) = nI v.length := by rw [List.length_cons]; exact nI_sub (a := v.length + 1) (b := 1) (by omega)
    have x14 := hx x List.mem_cons_self
    rw [sb]
    by_cases c : x = 14
    · refine ⟨nI v.length, loop_end ?_, Or.inr ⟨nI_nlt (b := 0) (by omega) (by omega), by rw [c]; exact List.mem_cons_self⟩⟩
      unfold F_X9_isOpened_s7
      rw [if_neg (show ¬ nI v.length < 0 from nI_nlt (b := 0) (by omega) (by omega)), Lp_67_39 L, ob_t, La_81 L (by omega), ob_t, hf, h.1, M_open x14, ob_t, if_pos c, if_neg (by decide)]
    · obtain ⟨r, e, z⟩ := opn_l L hf v h.2 (fun y hy => hx y (List.mem_cons_of_mem _ hy)) (by omega)
      refine ⟨r, ?_, ?_⟩
      · rw [loop_turn (s' := nI v.length - 1), e]
        unfold F_X9_isOpened_s7
        rw [if_neg (show ¬ nI v.length < 0 from nI_nlt (b := 0) (by omega) (by omega)), Lp_67_39 L, ob_t, La_81 L (by omega), ob_t, hf, h.1, M_open x14, ob_t, if_neg c, if_pos rfl, Int32.sub_eq_add_neg]
      · rcases z with ⟨a, b⟩ | ⟨a, b⟩
        · exact Or.inl ⟨a, fun y => by
            rcases List.mem_cons.mp y with y | y
            · exact c y.symm
            · exact b y⟩
        · exact Or.inr ⟨a, List.mem_cons_of_mem _ b⟩
theorem RC.opened (r : RC B n t b N q o w dp te) (hl : w.length ≤ 950) : F_X9_isOpened 67 N = some (if 14 ∈ w then 1 else 0) := by
  obtain ⟨v, e, z⟩ := opn_l r.lay rfl w r.2.2.2.1.2.1 r.2.2.2.1.2.2 hl
  unfold F_X9_isOpened
  rw [Lf_67 r.lay, ob_t, r.2.2.2.1.1, e, ob_t]
  unfold F_X9_isOpened_j29
  rcases z with ⟨a, b⟩ | ⟨a, b⟩
  · rw [if_pos a, if_neg b]
  · rw [if_neg a, if_pos b]
theorem RC.pop14 (r : RC B n t b N q o (14 :: w) (dp + 1) te) : RC B n t b (stI (stI N 67 31 (nI w.length)) 67 32 (nI dp)) q o w dp te := by
  obtain ⟨r1, r2, r3, r4, r5, r6⟩ := r
  have f : Fr (fun k j => k = 67 ∧ (j = 31 ∨ j = 32)) N (stI (stI N 67 31 (nI w.length)) 67 32 (nI dp)) := (Fr.rfl'.st ⟨rfl, Or.inl rfl⟩).st ⟨rfl, Or.inr rfl⟩
  exact ⟨r1.fr f rfl (fun j hj => by omega) (fun i => by omega), (f.at (by omega)).trans r2, ⟨(f.at (by omega)).trans r3.1, lyQ_g o b (fun i _ _ => f.at (by omega)) r3.2⟩, ⟨by rw [mI_sn (by omega), mI_se], stW_g _ (fun i hi => f.at (by omega)) r4.2.1.2, fun y hy => r4.2.2 y (List.mem_cons_of_mem _ hy)⟩, ⟨mI_se, by have := r5.2.1; omega, fun j hj => ⟨(f.at (by omega)).trans (r5.2.2 j (by omega)).1, (r5.2.2 j (by omega)).2⟩⟩, ⟨(f.at (by omega)).trans r6.1, (f.at (by omega)).trans r6.2⟩⟩
theorem opL_l : ∀ P : List Nat, (∀ x ∈ P, x ≠ 1 ∧ x ≠ 2 ∧ x < 14) → lenM (opL P) = P.length
  | [], _ => rfl
  | x :: P, h => by
    have hx := h x List.mem_cons_self
    have nx : ¬ (nI x = 1 ∨ nI x = 2) := by
      rintro (z | z)
      · exact hx.1 ((nI_eq (b := 1) (by omega) (by omega)).mp z)
      · exact hx.2.1 ((nI_eq (b := 2) (by omega) (by omega)).mp z)
    show (if nI x = 1 ∨ nI x = 2 then lenM (opL P) + 2 else lenM (opL P) + 1) = P.length + 1
    rw [if_neg nx, opL_l P fun y hy => h y (List.mem_cons_of_mem _ hy)]
/-- what waits, of this strength at least -/
def OkP (s : Nat) (P : List Nat) : Prop := ∀ x ∈ P, x ≠ 1 ∧ x ≠ 2 ∧ x < 14 ∧ s ≤ sthN x
theorem OkP.l {s : Nat} {P : List Nat} (h : OkP s P) : lenM (opL P) = P.length := opL_l P fun x hx => ⟨(h x hx).1, (h x hx).2.1, (h x hx).2.2.1⟩
theorem OkP.m {s s' : Nat} {P : List Nat} (h : OkP s P) (hs : s' ≤ s) : OkP s' P := fun x hx => ⟨(h x hx).1, (h x hx).2.1, (h x hx).2.2.1, Nat.le_trans hs (h x hx).2.2.2⟩
theorem BD.drop {s : Nat} {P : List Nat} (h : BD b q o (P ++ w)) (hP : OkP s P) : BD b q (o ++ opL P) w := by
  unfold BD at h ⊢
  rw [lenM_a, hP.l]
  rw [List.length_append] at h
  omega
theorem RC.close {P : List Nat} (r : RC B n t b N q o (P ++ 14 :: w) (dp + 1) te) (hb : BD b q o (P ++ 14 :: w)) (hP : OkP 0 P) : ∃ N', F_X9_closes 67 N = some N' ∧ RC B n t b N' (enT B n q) (o ++ opL P) w dp te ∧ BD b (enT B n q) (o ++ opL P) w ∧ Fr (XT b) N N' := by
  have hn := r.nq
  have hb' := hb.drop hP
  unfold BD at hb
  rw [List.length_append, List.length_cons] at hb
  obtain ⟨N1, e1, r1, f1⟩ := RC.drops (s := 0) (by omega) P o N r hP (fun x _ e => Or.inl (List.cons.inj e).1.symm) (by omega) (by rw [List.length_cons]; omega)
  have p := r1.pop14
  obtain ⟨N2, e2, r2, f2⟩ := p.take
  have L := r1.lay
  refine ⟨N2, ?_, r2, ?_, (f1.trans ((Fr.rfl'.st (by unfold XT; omega)).st (by unfold XT; omega))).trans f2⟩
  · unfold F_X9_closes
    rw [Lc_67 r.lay, show (0 : Int32) = nI 0 from rfl, e1, ob_t, Lf_67 L, ob_t, r1.2.2.2.1.1, List.length_cons, show nI (w.length + 1) - (1 : Int32) = nI w.length from nI_sub (a := w.length + 1) (b := 1) (by omega), Ls_67 L, ob_t, Lf_67 L.st, ob_t, mI_sn (by omega), r1.2.2.2.2.1.1, show nI (dp + 1) - (1 : Int32) = nI dp from nI_sub (a := dp + 1) (b := 1) (by omega), Ls_67 L.st, ob_t, Lc_67 L.st.st, e2, ob_t]
  · refine BD.take ?_ hn.2
    unfold BD at hb' ⊢
    rw [List.length_cons] at hb'
    omega
theorem RC.wrong {k : Nat} (r : RC B n t b N q o w dp te) : F_X9_wrong 67 (nI k) N = some (stI (stI N 67 13 (nI k)) 67 14 (nI (plT B n q))) := by
  have L := r.lay
  unfold F_X9_wrong
  rw [Lf_67 L, ob_t, r.2.1, if_pos rfl, Ls_67 L, ob_t, Lf_67 L.st, ob_t, mI_sn (by omega), r.1.2.2.2.1, Ls_67 L.st, ob_t]
/-- the reference has found this fault in a rule -/
def RF (b : Nat) (N : Mem) (k a : Nat) : Prop := Lay N ∧ ((mI N 67 13 = nI k ∧ 1 ≤ k ∧ k ≤ 5 ∧ mI N 67 14 = nI a) ∨ (mI N 67 13 = 0 ∧ k = 1 ∧ mI N 67 19 = nI a ∧ ∃ dp, mI N 67 32 = nI dp ∧ 2 ≤ dp ∧ dp ≤ 6)) ∧ ∃ (s : Nat) (v : List Nat), mI N 67 29 = nI s ∧ b ≤ s ∧ mI N 67 31 = nI v.length ∧ stW (mI N 81) v ∧ (∀ x ∈ v, x ≤ 14) ∧ v.length ≤ 700 ∧ s + v.length < 1400
theorem RC.flt {k : Nat} (r : RC B n t b N q o w dp te) (hb : BD b q o w) (h1 : 1 ≤ k) (h5 : k ≤ 5) : RF b (stI (stI N 67 13 (nI k)) 67 14 (nI (plT B n q))) k (plT B n q) ∧ Fr (XT b) N (stI (stI N 67 13 (nI k)) 67 14 (nI (plT B n q))) := by
  have hn := r.nq
  unfold BD at hb
  have f : Fr (fun k j => k = 67 ∧ (j = 13 ∨ j = 14)) N (stI (stI N 67 13 (nI k)) 67 14 (nI (plT B n q))) := (Fr.rfl'.st ⟨rfl, Or.inl rfl⟩).st ⟨rfl, Or.inr rfl⟩
  refine ⟨⟨r.lay.st.st, Or.inl ⟨by rw [mI_sn (by omega), mI_se], h1, h5, mI_se⟩, b + lenM o, w, (f.at (by omega)).trans r.2.2.1.1, by omega, (f.at (by omega)).trans r.2.2.2.1.1, stW_g _ (fun i hi => f.at (by omega)) r.2.2.2.1.2.1, r.2.2.2.1.2.2, by omega, by omega⟩, f.mono fun k j y => by unfold XT; omega⟩
theorem RF.bad {k a : Nat} (r : RF b N k a) (h : mI N 67 13 ≠ 0) : (∀ l, F_X9_operand 67 l N = some N) ∧ loopE N = some N := by
  have g := M_bad r.1 h
  constructor
  · intro l
    unfold F_X9_operand
    have e : loop (fun s : Int32 × Int32 × Mem => F_X9_operand_s4 67 s.1 s.2.1 s.2.2) (l, (1 : Int32), N) = some N := loop_end (by
      dsimp only
      unfold F_X9_operand_s4
      rw [if_neg (by decide), Lc_67 r.1, g, ob_t, if_pos rfl])
    rw [e, ob_t, Lc_67 r.1]
    unfold F_X9_part
    rw [Lc_67 r.1, g, ob_t, if_pos rfl, ob_t]
  · unfold loopE
    exact loop_end (by
      dsimp only
      unfold F_X9_expression_s34
      rw [if_neg (by decide), Lc_67 r.1, g, ob_t, if_pos rfl])
theorem RC.deep (r : RC B n t b N q o w dp te) (hd : dp < 6) : ∃ N', F_X9_deeper 67 N = some N' ∧ RC B n t b N' q o w (dp + 1) (upg te (dp + 1) 0) ∧ Fr (XT b) N N' := by
  obtain ⟨r1, r2, r3, r4, r5, r6⟩ := r
  have L := r1.1.1
  have f : Fr (fun k j => (k = 67 ∧ j = 32) ∨ k = 82) N (stI (stI N 67 32 (nI (dp + 1))) 82 (dp + 1) 0) := (Fr.rfl'.st (Or.inl ⟨rfl, rfl⟩)).st (Or.inr rfl)
  refine ⟨_, ?_, ⟨r1.fr f rfl (fun j hj => by omega) (fun i => by omega), (f.at (by omega)).trans r2, ⟨(f.at (by omega)).trans r3.1, lyQ_g o b (fun i _ _ => f.at (by omega)) r3.2⟩, ⟨(f.at (by omega)).trans r4.1, stW_g w (fun i hi => f.at (by omega)) r4.2.1, r4.2.2⟩, ⟨by rw [mI_sn (by omega), mI_se], by omega, fun j hj => ?_⟩, ⟨(f.at (by omega)).trans r6.1, (f.at (by omega)).trans r6.2⟩⟩, f.mono fun k j y => by unfold XT; omega⟩
  · unfold F_X9_deeper
    rw [Lf_67 L, ob_t, r5.1, if_neg (show ¬ (6 : Int32) ≤ nI dp from nI_ge (b := 6) hd (by omega)), ob_t, nI_1, Ls_67 L, ob_t, Lp_67_40 L.st, ob_t, Lf_67 L.st, ob_t, mI_se, Lw_82 L.st (by omega), ob_t]; rfl
  · by_cases e : j = dp + 1
    · rw [e, mI_se, upg_eq]; exact ⟨rfl, by omega⟩
    · rw [mI_sn (by omega), mI_sn (by omega), upg_ne e]; exact r5.2.2 j (by omega)
theorem RC.deep' (r : RC B n t b N q o w 6 te) : F_X9_deeper 67 N = F_X9_wrong 67 (nI (if 1000 ≤ cdT B n q ∨ (1 ≤ cdT B n q ∧ cdT B n q ≤ 17) ∨ cdT B n q = 60 then 2 else 1)) N := by
  have L := r.lay
  have hq := r.nq.2
  have ex : ∀ k, ∃ M', F_X9_wrong 67 (nI k) N = some M' := fun k => ⟨_, r.wrong⟩
  unfold F_X9_deeper
  rw [Lf_67 L, ob_t, r.2.2.2.2.1.1, if_pos (show (6 : Int32) ≤ nI 6 by decide), Lf_67 L, ob_t, r.1.sr]
  by_cases k3 : cdT B n q = 17 ∨ 1000 ≤ cdT B n q
  · obtain ⟨M', e⟩ := ex 2
    rw [if_pos ((sr_2 hq r.1.b).mpr k3), Lc_67 L, show (2 : Int32) = nI 2 from rfl, if_pos (by omega), e, ob_t]
  · rw [if_neg (fun y => k3 ((sr_2 hq r.1.b).mp y)), ob_t]
    by_cases k2 : 1 ≤ cdT B n q ∧ cdT B n q ≤ 16
    · obtain ⟨M', e⟩ := ex 2
      rw [if_pos ((sr_1 hq).mpr k2), Lc_67 L, show (2 : Int32) = nI 2 from rfl, if_pos (show 1000 ≤ cdT B n q ∨ (1 ≤ cdT B n q ∧ cdT B n q ≤ 17) ∨ cdT B n q = 60 by omega), e, ob_t]
    · rw [if_neg (fun y => k2 ((sr_1 hq).mp y)), Lc_67 L, show (40 : Int32) = nI 40 from rfl, r.1.isS (c := 40) (by unfold sgS; omega), ob_t]
      by_cases p : cdT B n q = 60
      · obtain ⟨M', e⟩ := ex 2
        rw [if_pos p, if_neg (by decide), Lc_67 L, show (2 : Int32) = nI 2 from rfl, if_pos (show 1000 ≤ cdT B n q ∨ (1 ≤ cdT B n q ∧ cdT B n q ≤ 17) ∨ cdT B n q = 60 by omega), e, ob_t]
      · obtain ⟨M', e⟩ := ex 1
        rw [if_neg p, if_pos rfl, Lc_67 L, show (1 : Int32) = nI 1 from rfl, if_neg (show ¬ (1000 ≤ cdT B n q ∨ (1 ≤ cdT B n q ∧ cdT B n q ≤ 17) ∨ cdT B n q = 60) by omega), e, ob_t]
-- an operand
theorem op_nt {l : Int32} (r : RC B n t b N q o w dp te) (h : l = 0 ∨ cdT B n q ≠ 12) : loop (fun s : Int32 × Mem => F_X9_operand_s18 67 l s.1 s.2) ((0 : Int32), N) = some N := loop_end (by
  dsimp only
  unfold F_X9_operand_s18
  rw [Lc_67 r.lay, r.good, ob_t, if_neg (by decide)]
  by_cases l0 : l = 0
  · rw [if_pos l0]
  · rw [if_neg l0, Lc_67 r.lay, r.1.kw, ob_t, if_neg (show ¬ kwI (cdT B n q) = (14 : Int32) from fun y => (h.resolve_left l0) ((r.1.kwe (k := 14) (by omega)).mp y))])
theorem op_part {l : Int32} (r : RC B n t b N q o w dp te) (h : l = 0 ∨ cdT B n q ≠ 12) (h60 : cdT B n q ≠ 60) : F_X9_operand 67 l N = F_X9_part 67 N := by
  have e : loop (fun s : Int32 × Int32 × Mem => F_X9_operand_s4 67 s.1 s.2.1 s.2.2) (l, (1 : Int32), N) = some N := by
    rw [loop_turn (s' := (l, (0 : Int32), N))]
    · refine loop_end ?_
      dsimp only
      unfold F_X9_operand_s4
      rw [if_pos rfl]
    · dsimp only
      unfold F_X9_operand_s4
      rw [if_neg (by decide), Lc_67 r.lay, r.good, ob_t, if_neg (by decide), op_nt r h, ob_t]
      unfold F_X9_operand_j75_4
      rw [Lc_67 r.lay, r.good, ob_t, if_neg (by decide), Lc_67 r.lay, show (40 : Int32) = nI 40 from rfl, r.1.isS (c := 40) (by unfold sgS; omega), ob_t, if_neg h60, if_pos rfl]
      unfold F_X9_operand_j95_4 F_X9_operand_j96_4
      rw [if_pos rfl]
  unfold F_X9_operand
  rw [e, ob_t, Lc_67 r.lay]
  cases F_X9_part 67 N <;> rfl
theorem op_open {l : Int32} {N3 : Mem} (r : RC B n t b N q o w dp te) (h60 : cdT B n q = 60) (e1 : F_X9_waitsFor 67 (nI 14) N = some N1) (L1 : Lay N1) (e2 : F_X9_takes 67 N1 = some N2) (L2 : Lay N2) (e3 : F_X9_deeper 67 N2 = some N3) : F_X9_operand 67 l N = F_X9_operand 67 1 N3 := by
  have e : loop (fun s : Int32 × Int32 × Mem => F_X9_operand_s4 67 s.1 s.2.1 s.2.2) (l, (1 : Int32), N) = loop (fun s : Int32 × Int32 × Mem => F_X9_operand_s4 67 s.1 s.2.1 s.2.2) ((1 : Int32), (1 : Int32), N3) := by
    refine loop_turn ?_
    dsimp only
    unfold F_X9_operand_s4
    rw [if_neg (by decide), Lc_67 r.lay, r.good, ob_t, if_neg (by decide), op_nt r (Or.inr (by omega)), ob_t]
    unfold F_X9_operand_j75_4
    rw [Lc_67 r.lay, r.good, ob_t, if_neg (by decide), Lc_67 r.lay, show (40 : Int32) = nI 40 from rfl, r.1.isS (c := 40) (by unfold sgS; omega), ob_t, if_pos h60, if_neg (by decide)]
    unfold F_X9_operand_j96_4
    rw [if_neg (by decide), Lc_67 r.lay, show (14 : Int32) = nI 14 from rfl, e1, ob_t, Lc_67 L1, e2, ob_t, Lc_67 L2, e3, ob_t]
  unfold F_X9_operand
  rw [e]
-- words that count
theorem fc_t' : ∀ t, t < 2 → ∀ c, c < 17 → 1 ≤ c → (decide (fcN t c ≠ 7) = decide (c ≤ 15 ∧ idm c ≤ 5 + t)) ∧ (fcN t c = 7 ∨ fcN t c = idm c) := by decide
theorem fc_t (t : Nat) (ht : t ≤ 1) (c : Nat) (hc : c ≤ 16) (h1 : 1 ≤ c) : (fcN t c ≠ 7 ↔ (1 ≤ c ∧ c ≤ 15) ∧ idm c ≤ 5 + t) ∧ (fcN t c ≠ 7 → fcN t c = idm c) := by
  obtain ⟨a, d⟩ := fc_t' t (by omega) c (by omega) h1
  have a := decide_eq_decide.mp a
  exact ⟨⟨fun y => ⟨⟨h1, (a.mp y).1⟩, (a.mp y).2⟩, fun y => a.mpr ⟨y.1.2, y.2⟩⟩, fun y => d.resolve_left y⟩
theorem part_ok (r : RC B n t b N q o w dp te) (hb : BD b q o w) (ht : t ≤ 1) {p : Int32 × Int32} (h : (1000 ≤ cdT B n q ∧ p = (1, nI (cdT B n q - 1000))) ∨ (fcN t (cdT B n q) ≠ 7 ∧ p = (2, nI (fcN t (cdT B n q))))) : ∃ N', F_X9_part 67 N = some N' ∧ RC B n t b N' (enT B n q) (o ++ [p]) w dp te ∧ BD b (enT B n q) (o ++ [p]) w ∧ Fr (XT b) N N' := by
  have L := r.lay
  have hn := r.nq
  have c0 : cdT B n q ≠ 0 := by
    rcases h with h | h
    · omega
    · exact fc_0 h.1
  have ce := cd_en hn.2 c0
  have hb' := hb
  unfold BD at hb'
  have fin : ∀ {N2 : Mem}, RC B n t b N2 q (o ++ [p]) w dp te → Fr (XT b) N N2 → (p.1 = 1 ∨ p.1 = 2) → ∃ N', F_X9_part_j93 67 N2 = some N' ∧ RC B n t b N' (enT B n q) (o ++ [p]) w dp te ∧ BD b (enT B n q) (o ++ [p]) w ∧ Fr (XT b) N N' := fun {N2} r2 f2 hp => by
    obtain ⟨N3, e3, r3, f3⟩ := r2.take
    refine ⟨N3, ?_, r3, ?_, f2.trans f3⟩
    · unfold F_X9_part_j93
      rw [Lc_67 r2.lay, r2.good, ob_t, if_neg (by decide), Lc_67 r2.lay, e3, ob_t]
    · have l2 : lenM [p] = 2 := by show (if p.1 = 1 ∨ p.1 = 2 then lenM [] + 2 else lenM [] + 1) = 2; rw [if_pos hp]; rfl
      unfold BD
      rw [lenM_a, l2]; omega
  unfold F_X9_part
  rw [Lc_67 L, r.good, ob_t, if_neg (by decide), Lf_67 L, ob_t, r.1.sr]
  rcases h with ⟨h, hp⟩ | ⟨h, hp⟩
  · obtain ⟨N1, N2, e1, v1, e2, L1, r2, f2⟩ := r.put2 (y := 1) (v := nI (cdT B n q - 1000)) (Or.inl rfl) (by omega)
    rw [if_pos ((sr_2 hn.2 r.1.b).mpr (Or.inr h)), Lf_67 L, ob_t, if_pos ((r.1.lon (Or.inr h)).mpr (by omega))]
    unfold F_X9_part_j29
    rw [Lc_67 L, show (1 : Int32) = nI 1 from rfl, e1, ob_t, Lf_67 L1, ob_t, v1, r.1.val h, Lc_67 L1, e2, ob_t]
    rw [hp] at fin ⊢
    exact fin r2 f2 (Or.inl rfl)
  · have w16 : 1 ≤ cdT B n q ∧ cdT B n q ≤ 16 := Classical.byContradiction fun y => h (fc_w y)
    obtain ⟨i1, i2⟩ := fc_t t ht (cdT B n q) w16.2 w16.1
    have i1 := i1.mp h
    have i2 := i2 h
    obtain ⟨N1, N2, e1, v1, e2, L1, r2, f2⟩ := r.put2 (y := 2) (v := nI (fcN t (cdT B n q))) (Or.inr rfl) (by omega)
    have n2 : ¬ nI (srT B n (plT B n q)) = (2 : Int32) := fun y => by
      have := (sr_2 hn.2 r.1.b).mp y; omega
    have kw : kwI (cdT B n q) = nI (fcN t (cdT B n q)) := by unfold kwI; rw [if_pos i1.1, i2]
    have f8 := fc_8 (t := t) (c := cdT B n q)
    rw [if_neg n2, ob_t, if_pos ((sr_1 hn.2).mpr w16), Lc_67 L, r.1.kw, ob_t, kw, if_neg (show ¬ nI (fcN t (cdT B n q)) < 0 from nI_nlt (b := 0) (by omega) (by omega)), Lf_67 L, ob_t, r.2.2.2.2.2.1, if_pos (nI_le (by omega) (by omega))]
    unfold F_X9_part_j75
    rw [Lc_67 L, show (2 : Int32) = nI 2 from rfl, e1, ob_t, Lc_67 L1, e2, ob_t]
    rw [hp] at fin ⊢
    exact fin r2 f2 (Or.inr rfl)
theorem part_ff {k a : Nat} (hk : k ≤ 5) (h1 : 1 ≤ k) {v1 v2 : Int32} (L : Lay N) (hf : mI N 67 13 = nI k ∧ mI N 67 14 = nI a) {s : Nat} {v : List Nat} (h29 : mI N 67 29 = nI s) (hs : b ≤ s) (h31 : mI N 67 31 = nI v.length) (hst : stW (mI N 81) v) (hx : ∀ x ∈ v, x ≤ 14) (hv : v.length ≤ 700) (hl : s + 2 + v.length < 1400) : ∃ N1 N', F_X9_puts 67 v1 N = some N1 ∧ Lay N1 ∧ mI N1 67 21 = mI N 67 21 ∧ F_X9_puts 67 v2 N1 = some N' ∧ F_X9_part_j93 67 N' = some N' ∧ RF b N' k a ∧ Fr (XT b) N N' := by
  have f : Fr (fun k j => (k = 67 ∧ j = 29) ∨ (k = 80 ∧ b ≤ j)) N (stI (stI (stI (stI N 80 s v1) 67 29 (nI (s + 1))) 80 (s + 1) v2) 67 29 (nI (s + 1 + 1))) := (((Fr.rfl'.st (Or.inr ⟨rfl, hs⟩)).st (Or.inl ⟨rfl, rfl⟩)).st (Or.inr ⟨rfl, by omega⟩)).st (Or.inl ⟨rfl, rfl⟩)
  have kf : mI (stI (stI (stI (stI N 80 s v1) 67 29 (nI (s + 1))) 80 (s + 1) v2) 67 29 (nI (s + 1 + 1))) 67 13 = nI k := (f.at (by omega)).trans hf.1
  refine ⟨_, _, M_puts L h29 (by omega), L.st.st, by rw [mI_sn (by omega), mI_sn (by omega)], M_puts L.st.st mI_se (by omega), ?_, ⟨L.st.st.st.st, Or.inl ⟨kf, h1, hk, (f.at (by omega)).trans hf.2⟩, s + 1 + 1, v, mI_se, by omega, (f.at (by omega)).trans h31, stW_g v (fun i hi => f.at (by omega)) hst, hx, hv, by omega⟩, f.mono fun k j y => by unfold XT; omega⟩
  unfold F_X9_part_j93
  rw [Lc_67 L.st.st.st.st, M_bad L.st.st.st.st (by rw [kf]; exact neL0 (by omega) (by omega)), ob_t, if_pos rfl]
theorem part_no (r : RC B n t b N q o w dp te) (hb : BD b q o w) (ht : t ≤ 1) (h7 : fcN t (cdT B n q) = 7) (h1 : ¬ 1000 ≤ cdT B n q) {k : Nat} (hk : k = if 1 ≤ cdT B n q ∧ cdT B n q ≤ 16 then 3 else if cdT B n q = 17 then 2 else 1) : ∃ N', F_X9_part 67 N = some N' ∧ RF b N' k (plT B n q) ∧ mI N' 67 13 ≠ 0 ∧ Fr (XT b) N N' := by
  have L := r.lay
  have hn := r.nq
  have k5 : 1 ≤ k ∧ k ≤ 5 := by
    rw [hk]; split
    · omega
    · split <;> omega
  obtain ⟨rf, ff⟩ := r.flt hb k5.1 k5.2
  have nk : nI k ≠ 0 := neL0 (by omega) (by omega)
  have b13 : mI (stI (stI N 67 13 (nI k)) 67 14 (nI (plT B n q))) 67 13 = nI k := by rw [mI_sn (by omega), mI_se]
  have hb' := hb
  unfold BD at hb'
  have pp : cdT B n q ≠ 0 → ∀ v1 v2, ∃ N1 N', F_X9_puts 67 v1 (stI (stI N 67 13 (nI k)) 67 14 (nI (plT B n q))) = some N1 ∧ Lay N1 ∧ mI N1 67 21 = mI (stI (stI N 67 13 (nI k)) 67 14 (nI (plT B n q))) 67 21 ∧ F_X9_puts 67 v2 N1 = some N' ∧ F_X9_part_j93 67 N' = some N' ∧ RF b N' k (plT B n q) ∧ Fr (XT b) (stI (stI N 67 13 (nI k)) 67 14 (nI (plT B n q))) N' := fun c0 v1 v2 => by
    have ce := cd_en hn.2 c0
    exact part_ff k5.2 k5.1 rf.1 ⟨b13, mI_se⟩ (s := b + lenM o) (v := w) (by rw [mI_sn (by omega), mI_sn (by omega)]; exact r.2.2.1.1) (by omega) (by rw [mI_sn (by omega), mI_sn (by omega)]; exact r.2.2.2.1.1) (stW_g w (fun i hi => by rw [mI_sn (by omega), mI_sn (by omega)]) r.2.2.2.1.2.1) r.2.2.2.1.2.2 (by omega) (by omega)
  have nz' : ∀ N', RF b N' k (plT B n q) → Fr (XT b) N N' → F_X9_part_j93 67 N' = some N' → mI N' 67 13 ≠ 0 ∨ mI N' 67 13 = 0 := fun N' _ _ _ => by
    by_cases c : mI N' 67 13 = 0
    · exact Or.inr c
    · exact Or.inl c
  unfold F_X9_part
  rw [Lc_67 L, r.good, ob_t, if_neg (by decide), Lf_67 L, ob_t, r.1.sr]
  by_cases k2 : 1 ≤ cdT B n q ∧ cdT B n q ≤ 16
  · have hk3 : k = 3 := by rw [hk, if_pos k2]
    obtain ⟨i1, -⟩ := fc_t t ht (cdT B n q) k2.2 k2.1
    have n2 : ¬ nI (srT B n (plT B n q)) = (2 : Int32) := fun y => by
      have := (sr_2 hn.2 r.1.b).mp y; omega
    obtain ⟨N1, N2, e1, L1, -, e2, e3, rf2, f2⟩ := pp (by omega) (nI 2) (kwI (cdT B n q))
    have j70 : F_X9_part_j70 67 (kwI (cdT B n q)) N = some N2 := by
      unfold F_X9_part_j70 F_X9_part_j75
      rw [Lc_67 L, show (3 : Int32) = nI k by rw [hk3]; rfl, r.wrong, ob_t, Lc_67 rf.1, show (2 : Int32) = nI 2 from rfl, e1, ob_t, Lc_67 L1, e2, ob_t, e3]
    rw [if_neg n2, ob_t, if_pos ((sr_1 hn.2).mpr k2), Lc_67 L, r.1.kw, ob_t]
    have nb : mI N2 67 13 ≠ 0 := by
      rcases rf2.2.1 with y | y
      · rw [y.1]; exact nk
      · have := y.2.1; omega
    by_cases lt : kwI (cdT B n q) < 0
    · rw [if_pos lt]; exact ⟨N2, j70, rf2, nb, ff.trans f2⟩
    · rw [if_neg lt, Lf_67 L, ob_t, r.2.2.2.2.2.1, if_neg]
      · exact ⟨N2, j70, rf2, nb, ff.trans f2⟩
      · intro y
        unfold kwI at y lt
        by_cases c : 1 ≤ cdT B n q ∧ cdT B n q ≤ 15
        · rw [if_pos c] at y
          have im := idm_t (cdT B n q) (by omega) c.1
          have : ¬ idm (cdT B n q) ≤ 5 + t := fun z => (i1.mpr ⟨c, z⟩) h7
          exact nI_ge (a := 5 + t) (by omega) (by omega) y
        · rw [if_neg c] at lt; exact lt (by decide)
  · by_cases k17 : cdT B n q = 17
    · have hk3 : k = 2 := by rw [hk, if_neg k2, if_pos k17]
      obtain ⟨N1, N2, e1, L1, v1, e2, e3, rf2, f2⟩ := pp (by omega) (nI 1) (mI N 67 21)
      have nb : mI N2 67 13 ≠ 0 := by
        rcases rf2.2.1 with y | y
        · rw [y.1]; exact nk
        · have := y.2.1; omega
      rw [if_pos ((sr_2 hn.2 r.1.b).mpr (Or.inl k17)), Lf_67 L, ob_t, if_neg (fun y => (r.1.lon (Or.inl k17)).mp y k17), Lc_67 L, show (2 : Int32) = nI k by rw [hk3]; rfl, r.wrong, ob_t]
      unfold F_X9_part_j29
      rw [Lc_67 rf.1, show (1 : Int32) = nI 1 from rfl, e1, ob_t, Lf_67 L1, ob_t, v1, mI_sn (by omega), mI_sn (by omega), Lc_67 L1, e2, ob_t]
      exact ⟨N2, e3, rf2, nb, ff.trans f2⟩
    · have hk3 : k = 1 := by rw [hk, if_neg k2, if_neg k17]
      rw [if_neg (fun y => by have := (sr_2 hn.2 r.1.b).mp y; omega), ob_t, if_neg (fun y => k2 ((sr_1 hn.2).mp y)), Lc_67 L, show (1 : Int32) = nI k by rw [hk3]; rfl, r.wrong, ob_t]
      refine ⟨_, ?_, rf, by rw [b13]; exact nk, ff⟩
      unfold F_X9_part_j93
      rw [Lc_67 rf.1, M_bad rf.1 (by rw [b13]; exact nk), ob_t, if_pos rfl]
end
