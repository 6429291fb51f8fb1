/-! ===== a rule is read: both alike ===== -/
section
variable {N N' N1 N2 : Mem} {B : Nat → Nat} {n t b q dp d L : Nat} {o : List (Int32 × Int32)} {w : List Nat} {te : Nat → Nat} {X : Nat → Nat → Prop} {σ : Ps}
def opM (x : Int32) : Int32 := if x = -8 then 3 else if x = -9 then 4 else if x = -10 then 5 else if x = -15 then 6 else if x = -16 then 7 else if x = -11 then 8 else if x = -12 then 9 else if x = -13 then 10 else 11
def toM (x : Int32) : Int32 × Int32 := if x < -7 then (opM x, 0) else if x < 0 then (2, -1 - x) else (1, x)
theorem toM_j : ∀ L, L < 5 → ∀ c, c < 100 → jnI L c = 0 ∨ toM (jnI L c) = (nI (opN L c), 0) := by decide
theorem toM_f : ∀ f, f < 7 → toM (-1 - nI f) = (2, nI f) := by decide
theorem toM_v {v : Nat} (h : v < 2 ^ 31) : toM (nI v) = (1, nI v) := by
  have h0 : ¬ nI v < 0 := nI_nlt (b := 0) (by omega) (by omega)
  unfold toM
  rw [if_neg (fun y => h0 (Int32.lt_trans y (by decide))), if_neg h0]
def slL (L : Nat) : Nat := if L = 0 then 1 else if L = 1 then 2 else if L = 2 then 3 else if L = 3 then 5 else if L = 4 then 6 else 7
theorem sl_d : ∀ L, L < 5 → dsL L < slL (L + 1) ∧ slL L ≤ dsL L ∧ slL L ≤ slL (L + 1) := by decide
def opJ (L : Nat) : Int32 := if L ≤ 2 then 1 else 0
theorem opI_J : opI L = opJ (L + 1) := by
  unfold opI opJ
  by_cases h : L ≤ 1
  · rw [if_pos h, if_pos (by omega)]
  · rw [if_neg h, if_neg (by omega)]
/-- no joint of this level or a higher one stands there -/
def NJ (L c tv : Nat) : Prop := (∀ L', L ≤ L' → L' ≤ 4 → L' ≠ 2 → jnI L' c = 0) ∧ (L ≤ 2 → jnI 2 c ≠ 0 → tv ≠ 0)
theorem TWc.m {s s' : Nat} (h : TWc s w) (hs : s ≤ s') : TWc s' w := fun x r e => (h x r e).imp id fun y => Nat.lt_of_lt_of_le y hs
/-- what the reference does, while the class reads so much -/
def RLs (B : Nat → Nat) (n t b : Nat) (p : Ps → Ps) (d L : Nat) : Prop := ∀ (σ : Ps) (N : Mem) (o : List (Int32 × Int32)) (w : List Nat) (te : Nat → Nat), σ.2.2.1 = 0 → RC B n t b N σ.2.1 o w (d + 1) te → BD b σ.2.1 o w → TWc (slL L) w → (L ≤ 2 → te (d + 1) = 0) →
  ((p σ).2.2.1 = 0 → ∃ c N0 N1 P o' te', (p σ).1 = σ.1 ++ c ∧ F_X9_operand 67 (opJ L) N = some N0 ∧ loopE N0 = loopE N1 ∧ RC B n t b N1 (p σ).2.1 o' (P ++ w) (d + 1) te' ∧ BD b (p σ).2.1 o' (P ++ w) ∧ OkP (slL L) P ∧ o' ++ opL P = o ++ c.map toM ∧ (∀ j, j ≤ d → te' j = te j) ∧ (3 ≤ L → te' (d + 1) = te (d + 1)) ∧ NJ L (cdT B n (p σ).2.1) (te' (d + 1)) ∧ Fr (XT b) N N1) ∧
  ((p σ).2.2.1 ≠ 0 → ∃ N0 NF, F_X9_operand 67 (opJ L) N = some N0 ∧ loopE N0 = some NF ∧ RF b NF (p σ).2.2.1 (p σ).2.2.2 ∧ Fr (XT b) N NF)
theorem opL_a {P Q : List Nat} : opL (P ++ Q) = opL P ++ opL Q := List.map_append
theorem R_jl {R : Nat → Nat → Ps → Ps} (hL : L ≤ 4) (hB : ∀ σ : Ps, σ.2.1 ≤ n → PB n σ (R d (L + 1) σ)) (hR : RLs B n t b (R d (L + 1)) d (L + 1)) : ∀ (m : Nat) (σ : Ps) (N : Mem) (o : List (Int32 × Int32)) (w : List Nat) (te : Nat → Nat) (P : List Nat) (c0 : List Int32) (o0 : List (Int32 × Int32)), σ.2.2.1 = 0 → RC B n t b N σ.2.1 o (P ++ w) (d + 1) te → BD b σ.2.1 o (P ++ w) → OkP (dsL L) P → TWc (dsL L) w → o ++ opL P = o0 ++ c0.map toM → NJ (L + 1) (cdT B n σ.2.1) (te (d + 1)) → ((L = 2 ∧ ((m = 1 ∧ te (d + 1) = 0) ∨ (m = 0 ∧ te (d + 1) ≠ 0))) ∨ (L ≠ 2 ∧ 700 ≤ σ.2.1 + m)) →
    ((jlP B n R d L m σ).2.2.1 = 0 → ∃ c N1 P' o' te', (jlP B n R d L m σ).1 = σ.1 ++ c ∧ loopE N = loopE N1 ∧ RC B n t b N1 (jlP B n R d L m σ).2.1 o' (P' ++ w) (d + 1) te' ∧ BD b (jlP B n R d L m σ).2.1 o' (P' ++ w) ∧ OkP (dsL L) P' ∧ o' ++ opL P' = o0 ++ (c0 ++ c).map toM ∧ (∀ j, j ≤ d → te' j = te j) ∧ (3 ≤ L → te' (d + 1) = te (d + 1)) ∧ NJ L (cdT B n (jlP B n R d L m σ).2.1) (te' (d + 1)) ∧ Fr (XT b) N N1) ∧
    ((jlP B n R d L m σ).2.2.1 ≠ 0 → ∃ NF, loopE N = some NF ∧ RF b NF (jlP B n R d L m σ).2.2.1 (jlP B n R d L m σ).2.2.2 ∧ Fr (XT b) N NF) := by
  have sd := sl_d L (by omega)
  have stay : ∀ (σ : Ps) (N : Mem) (o : List (Int32 × Int32)) (w : List Nat) (te : Nat → Nat) (P : List Nat) (c0 : List Int32) (o0 : List (Int32 × Int32)), σ.2.2.1 = 0 → RC B n t b N σ.2.1 o (P ++ w) (d + 1) te → BD b σ.2.1 o (P ++ w) → OkP (dsL L) P → o ++ opL P = o0 ++ c0.map toM → NJ L (cdT B n σ.2.1) (te (d + 1)) → (σ.2.2.1 = 0 → ∃ c N1 P' o' te', σ.1 = σ.1 ++ c ∧ loopE N = loopE N1 ∧ RC B n t b N1 σ.2.1 o' (P' ++ w) (d + 1) te' ∧ BD b σ.2.1 o' (P' ++ w) ∧ OkP (dsL L) P' ∧ o' ++ opL P' = o0 ++ (c0 ++ c).map toM ∧ (∀ j, j ≤ d → te' j = te j) ∧ (3 ≤ L → te' (d + 1) = te (d + 1)) ∧ NJ L (cdT B n σ.2.1) (te' (d + 1)) ∧ Fr (XT b) N N1) ∧ (σ.2.2.1 ≠ 0 → ∃ NF, loopE N = some NF ∧ RF b NF σ.2.2.1 σ.2.2.2 ∧ Fr (XT b) N NF) := fun σ N o w te P c0 o0 hk r hb hP ho hj =>
    ⟨fun _ => ⟨[], N, P, o, te, by rw [List.append_nil], rfl, r, hb, hP, by rw [List.append_nil]; exact ho, fun _ _ => rfl, fun _ => rfl, hj, Fr.rfl'⟩, fun y => absurd hk y⟩
  intro m
  induction m with
  | zero =>
    intro σ N o w te P c0 o0 hk r hb hP hw ho hj hm
    refine stay σ N o w te P c0 o0 hk r hb hP ho ?_
    have hn := r.nq
    rcases hm with ⟨l2, hm⟩ | ⟨l2, hm⟩
    · refine ⟨fun L' a1 a2 a3 => hj.1 L' (by omega) a2 a3, fun _ _ => ?_⟩
      rcases hm with hm | hm
      · omega
      · exact hm.2
    · have c0 : cdT B n σ.2.1 = 0 := cd_0 (kd_0.mpr (by have := pl_le (B := B) hn.2; omega))
      refine ⟨fun L' a1 a2 a3 => by rw [c0]; exact jn_0, fun _ y => absurd (by rw [c0]; exact jn_0) y⟩
  | succ m ih =>
    intro σ N o w te P c0 o0 hk r hb hP hw ho hj hm
    have hn := r.nq
    rw [jlP.eq_2]
    by_cases s : jnI L (cdT B n σ.2.1) = 0
    · rw [if_neg (fun y => y.2 s)]
      refine stay σ N o w te P c0 o0 hk r hb hP ho ⟨fun L' a1 a2 a3 => ?_, fun a1 a2 => ?_⟩
      · by_cases e : L' = L
        · rw [e]; exact s
        · exact hj.1 L' (by omega) a2 a3
      · by_cases e : L = 2
        · rw [e] at s; exact absurd s a2
        · exact hj.2 (by omega) a2
    · rw [if_pos ⟨hk, s⟩]
      have c0' : cdT B n σ.2.1 ≠ 0 := fun y => s (by rw [y]; exact jn_0)
      have ce := cd_en hn.2 c0'
      have cj := jn_c hL s
      have ot := op_t L (by omega) (cdT B n σ.2.1) cj.1 s
      obtain ⟨N5, te5, e5, r5, b5, t5, u5, f5⟩ := st_join (by omega) hL r hb hP hw s (fun l2 => by
        rcases hm with ⟨-, hm⟩ | ⟨hm, -⟩
        · rcases hm with hm | hm
          · exact hm.2
          · omega
        · exact absurd l2 hm)
      have tw : TWc (slL (L + 1)) (opN L (cdT B n σ.2.1) :: w) := fun x v e => Or.inr (by rw [← (List.cons.inj e).1, ot.2.2.2.2]; exact sd.1)
      obtain ⟨g1, g2⟩ := hR (advP B n σ) N5 (o ++ opL P) (opN L (cdT B n σ.2.1) :: w) te5 hk r5 b5 tw (fun l => by rw [t5]; unfold teL; rw [if_pos (by omega)])
      have bb := hB (advP B n σ) ce.2.1
      have turn : ∀ N0, F_X9_operand 67 (opJ (L + 1)) N5 = some N0 → loopE N = loopE N0 := fun N0 e0 => by
        unfold loopE
        refine loop_turn ?_
        dsimp only
        rw [e5, opI_J, e0, ob_t]
      by_cases z : (R d (L + 1) (advP B n σ)).2.2.1 = 0
      · obtain ⟨c, N0, N1, P1, o1, te1, h1, h2, h3, h4, h5, h6, h7, h8, h9, h10, h11⟩ := g1 z
        have ap : P1 ++ opN L (cdT B n σ.2.1) :: w = (P1 ++ [opN L (cdT B n σ.2.1)]) ++ w := by rw [List.append_assoc]; rfl
        rw [ap] at h4 h5
        have okp : OkP (dsL L) (P1 ++ [opN L (cdT B n σ.2.1)]) := fun x hx => by
          rcases List.mem_append.mp hx with hx | hx
          · exact h6.m (by omega) x hx
          · rw [List.mem_singleton.mp hx]; exact ⟨ot.2.1, ot.2.2.1, ot.2.2.2.1, by omega⟩
        obtain ⟨k1, k2⟩ := ih (emiP (jnI L (cdT B n σ.2.1)) (R d (L + 1) (advP B n σ))) N1 o1 w te1 (P1 ++ [opN L (cdT B n σ.2.1)]) (c0 ++ c ++ [jnI L (cdT B n σ.2.1)]) o0 z h4 h5 okp hw (by
          rw [opL_a, ← List.append_assoc, h7, ho, List.map_append, List.map_append, ← List.append_assoc, ← List.append_assoc]
          congr 1
          show [(nI (opN L (cdT B n σ.2.1)), (0 : Int32))] = [toM (jnI L (cdT B n σ.2.1))]
          rw [(toM_j L (by omega) _ cj.1).resolve_left s]) h10 (by
          have q1 : (advP B n σ).2.1 = enT B n σ.2.1 := rfl
          have q2 := bb.1
          have q3 : (emiP (jnI L (cdT B n σ.2.1)) (R d (L + 1) (advP B n σ))).2.1 = (R d (L + 1) (advP B n σ)).2.1 := rfl
          rcases hm with ⟨l2, hm⟩ | ⟨l2, hm⟩
          · refine Or.inl ⟨l2, Or.inr ⟨by omega, ?_⟩⟩
            rw [h9 (by omega), t5, l2]; unfold teL
            rw [if_neg (by omega), if_pos rfl]; decide
          · exact Or.inr ⟨l2, by omega⟩)
        constructor
        · intro y
          obtain ⟨c', N2, P', o', te', y1, y2, y3, y4, y5, y6, y7, y8, y9, y10⟩ := k1 y
          refine ⟨c ++ [jnI L (cdT B n σ.2.1)] ++ c', N2, P', o', te', ?_, (turn N0 h2).trans (h3.trans y2), y3, y4, y5, ?_, fun j hj => ?_, fun l => ?_, y9, (f5.trans h11).trans y10⟩
          · rw [y1]
            show (R d (L + 1) (advP B n σ)).1 ++ [jnI L (cdT B n σ.2.1)] ++ c' = _
            rw [h1]
            show σ.1 ++ c ++ [jnI L (cdT B n σ.2.1)] ++ c' = _
            simp only [List.append_assoc]
          · rw [y6]; simp only [List.append_assoc]
          · rw [y7 j hj, h8 j hj, u5 j (by omega)]
          · rw [y8 l, h9 (by omega), t5]; unfold teL
            rw [if_neg (by omega), if_neg (by omega)]
        · intro y
          obtain ⟨NF, y1, y2, y3⟩ := k2 y
          exact ⟨NF, (turn N0 h2).trans (h3.trans y1), y2, (f5.trans h11).trans y3⟩
      · obtain ⟨N0, NF, h1, h2, h3, h4⟩ := g2 z
        rw [jl_k m _ (show (emiP (jnI L (cdT B n σ.2.1)) (R d (L + 1) (advP B n σ))).2.2.1 ≠ 0 from z)]
        exact ⟨fun y => absurd y z, fun _ => ⟨NF, (turn N0 h1).trans h2, h3, f5.trans h4⟩⟩
theorem R_open {l : Int32} (r : RC B n t b N q o w dp te) (hb : BD b q o w) (h60 : cdT B n q = 60) : ∃ N2, F_X9_takes 67 N2 = F_X9_takes 67 N2 ∧ RC B n t b N2 (enT B n q) o (14 :: w) dp te ∧ BD b (enT B n q) o (14 :: w) ∧ Fr (XT b) N N2 ∧ ∀ N3, F_X9_deeper 67 N2 = some N3 → F_X9_operand 67 l N = F_X9_operand 67 1 N3 := by
  obtain ⟨N1, N2, e1, L1, e2, r2, b2, f2⟩ := tail_n (op := 14) r hb (by omega) (by omega)
  exact ⟨N2, rfl, r2, b2, f2, fun N3 e3 => op_open r h60 e1 L1 e2 r2.lay e3⟩
theorem R_part {R : Nat → Nat → Ps → Ps} (ht : t ≤ 1) (hd : d ≤ 5) (hR : d ≤ 4 → RLs B n t b (R (d + 1) 0) (d + 1) 0) (h6 : d = 5 → ∀ σ : Ps, R (d + 1) 0 σ = if 1000 ≤ cdT B n σ.2.1 ∨ (1 ≤ cdT B n σ.2.1 ∧ cdT B n σ.2.1 ≤ 17) ∨ cdT B n σ.2.1 = 60 then failP B n 2 σ else failP B n 1 σ) : RLs B n t b (ptP B n t R d) d 5 := by
  intro σ N o w te hk r hb hw _
  have hn := r.nq
  have val : ∀ (x : Int32) (p : Int32 × Int32), toM x = p → cdT B n σ.2.1 ≠ 60 → (∃ N', F_X9_part 67 N = some N' ∧ RC B n t b N' (enT B n σ.2.1) (o ++ [p]) w (d + 1) te ∧ BD b (enT B n σ.2.1) (o ++ [p]) w ∧ Fr (XT b) N N') → ((advP B n (emiP x σ)).2.2.1 = 0 → ∃ c N0 N1 P o' te', (advP B n (emiP x σ)).1 = σ.1 ++ c ∧ F_X9_operand 67 (opJ 5) N = some N0 ∧ loopE N0 = loopE N1 ∧ RC B n t b N1 (advP B n (emiP x σ)).2.1 o' (P ++ w) (d + 1) te' ∧ BD b (advP B n (emiP x σ)).2.1 o' (P ++ w) ∧ OkP (slL 5) P ∧ o' ++ opL P = o ++ c.map toM ∧ (∀ j, j ≤ d → te' j = te j) ∧ (3 ≤ 5 → te' (d + 1) = te (d + 1)) ∧ NJ 5 (cdT B n (advP B n (emiP x σ)).2.1) (te' (d + 1)) ∧ Fr (XT b) N N1) ∧ ((advP B n (emiP x σ)).2.2.1 ≠ 0 → ∃ N0 NF, F_X9_operand 67 (opJ 5) N = some N0 ∧ loopE N0 = some NF ∧ RF b NF (advP B n (emiP x σ)).2.2.1 (advP B n (emiP x σ)).2.2.2 ∧ Fr (XT b) N NF) := fun x p hx h60 ⟨N', e, r', b', f'⟩ =>
    ⟨fun _ => ⟨[x], N', N', [], o ++ [p], te, rfl, by rw [op_part (l := opJ 5) r (Or.inl rfl) h60]; exact e, rfl, r', b', fun _ y => absurd y List.not_mem_nil, by show o ++ [p] ++ [] = o ++ [toM x]; rw [hx, List.append_nil], fun _ _ => rfl, fun _ => rfl, ⟨fun L' a1 a2 _ => by omega, fun a => by omega⟩, f'⟩, fun y => absurd hk y⟩
  have bad : ∀ k, (∃ N', F_X9_part 67 N = some N' ∧ RF b N' k (plT B n σ.2.1) ∧ mI N' 67 13 ≠ 0 ∧ Fr (XT b) N N') → 1 ≤ k → cdT B n σ.2.1 ≠ 60 → ((failP B n k σ).2.2.1 = 0 → ∃ c N0 N1 P o' te', (failP B n k σ).1 = σ.1 ++ c ∧ F_X9_operand 67 (opJ 5) N = some N0 ∧ loopE N0 = loopE N1 ∧ RC B n t b N1 (failP B n k σ).2.1 o' (P ++ w) (d + 1) te' ∧ BD b (failP B n k σ).2.1 o' (P ++ w) ∧ OkP (slL 5) P ∧ o' ++ opL P = o ++ c.map toM ∧ (∀ j, j ≤ d → te' j = te j) ∧ (3 ≤ 5 → te' (d + 1) = te (d + 1)) ∧ NJ 5 (cdT B n (failP B n k σ).2.1) (te' (d + 1)) ∧ Fr (XT b) N N1) ∧ ((failP B n k σ).2.2.1 ≠ 0 → ∃ N0 NF, F_X9_operand 67 (opJ 5) N = some N0 ∧ loopE N0 = some NF ∧ RF b NF (failP B n k σ).2.2.1 (failP B n k σ).2.2.2 ∧ Fr (XT b) N NF) := fun k ⟨N', e, rf, nz, f'⟩ h1 h60 => by
    have fe : failP B n k σ = (σ.1, σ.2.1, k, plT B n σ.2.1) := by unfold failP; rw [if_pos hk]
    rw [fe]
    exact ⟨fun y => absurd y (by show k ≠ 0; omega), fun _ => ⟨N', N', by rw [op_part (l := opJ 5) r (Or.inl rfl) h60]; exact e, (rf.bad nz).2, rf, f'⟩⟩
  unfold ptP
  by_cases c1 : fcN t (cdT B n σ.2.1) ≠ 7
  · rw [if_pos c1]
    have w16 : 1 ≤ cdT B n σ.2.1 ∧ cdT B n σ.2.1 ≤ 16 := Classical.byContradiction fun y => c1 (fc_w y)
    have f8 := fc_8 (t := t) (c := cdT B n σ.2.1)
    exact val _ _ (toM_f _ (by omega)) (by omega) (part_ok r hb ht (Or.inr ⟨c1, rfl⟩))
  have c1' : fcN t (cdT B n σ.2.1) = 7 := Classical.byContradiction c1
  rw [if_neg c1]
  by_cases c2 : 1 ≤ cdT B n σ.2.1 ∧ cdT B n σ.2.1 ≤ 16
  · rw [if_pos c2]
    exact bad 3 (part_no r hb ht c1' (by omega) (by rw [if_pos c2])) (by omega) (by omega)
  rw [if_neg c2]
  by_cases c3 : cdT B n σ.2.1 = 17
  · rw [if_pos c3]
    exact bad 2 (part_no r hb ht c1' (by omega) (by rw [if_neg c2, if_pos c3])) (by omega) (by omega)
  rw [if_neg c3]
  by_cases c4 : 1000 ≤ cdT B n σ.2.1
  · rw [if_pos c4]
    have := cd_le hn.2 r.1.b
    exact val _ _ (toM_v (by omega)) (by omega) (part_ok r hb ht (Or.inl ⟨c4, rfl⟩))
  rw [if_neg c4]
  by_cases c5 : cdT B n σ.2.1 = 60
  · rw [if_pos c5]
    obtain ⟨N2, -, r2, b2, f2, op⟩ := R_open (l := opJ 5) r hb c5
    have hq1 := r2.nq
    by_cases d5 : d = 5
    · have e6 := h6 d5 (advP B n σ)
      rw [show d + 1 = 6 by omega] at r2
      have dw := r2.deep'
      generalize hk6 : (if 1000 ≤ cdT B n (enT B n σ.2.1) ∨ (1 ≤ cdT B n (enT B n σ.2.1) ∧ cdT B n (enT B n σ.2.1) ≤ 17) ∨ cdT B n (enT B n σ.2.1) = 60 then 2 else 1) = k6 at dw
      have k6b : 1 ≤ k6 ∧ k6 ≤ 5 := by rw [← hk6]; split <;> omega
      have e6' : R (d + 1) 0 (advP B n σ) = (σ.1, enT B n σ.2.1, k6, plT B n (enT B n σ.2.1)) := by
        rw [e6, ← hk6]
        show (if 1000 ≤ cdT B n (enT B n σ.2.1) ∨ (1 ≤ cdT B n (enT B n σ.2.1) ∧ cdT B n (enT B n σ.2.1) ≤ 17) ∨ cdT B n (enT B n σ.2.1) = 60 then failP B n 2 (advP B n σ) else failP B n 1 (advP B n σ)) = _
        have fe : ∀ k, failP B n k (advP B n σ) = (σ.1, enT B n σ.2.1, k, plT B n (enT B n σ.2.1)) := fun k => by unfold failP; rw [if_pos (show (advP B n σ).2.2.1 = 0 from hk)]; rfl
        rw [fe, fe]
        split <;> rfl
      rw [r2.wrong] at dw
      obtain ⟨rf, ff⟩ := r2.flt b2 k6b.1 k6b.2
      have nz : mI (stI (stI N2 67 13 (nI k6)) 67 14 (nI (plT B n (enT B n σ.2.1)))) 67 13 ≠ 0 := by rw [mI_sn (by omega), mI_se]; exact neL0 (by omega) (by omega)
      have bd := rf.bad nz
      rw [e6', if_neg (fun y : k6 = 0 ∧ _ => by have := y.1; omega), fa_fail (show (σ.1, enT B n σ.2.1, k6, plT B n (enT B n σ.2.1)).2.2.1 ≠ 0 by show k6 ≠ 0; omega)]
      exact ⟨fun y => absurd y (by show k6 ≠ 0; omega), fun _ => ⟨_, _, by rw [op _ dw]; exact bd.1 1, bd.2, rf, f2.trans ff⟩⟩
    · have x2 : d + 1 + 1 ≤ 6 := by omega
      obtain ⟨N3, e3, r3, f3⟩ := r2.deep (by omega)
      obtain ⟨g1, g2⟩ := hR (by omega) (advP B n σ) N3 o (14 :: w) (upg te (d + 1 + 1) 0) hk r3 b2 (fun x v e => Or.inl (List.cons.inj e).1.symm) (fun _ => upg_eq)
      have opn : F_X9_operand 67 (opJ 5) N = F_X9_operand 67 1 N3 := op N3 e3
      by_cases z : (R (d + 1) 0 (advP B n σ)).2.2.1 = 0
      · obtain ⟨c, N0, N1, P1, o1, te1, h1, h2, h3, h4, h5, h6', h7, h8, h9, h10, h11⟩ := g1 z
        by_cases y : cdT B n (R (d + 1) 0 (advP B n σ)).2.1 = 61
        · rw [if_pos ⟨z, y⟩]
          obtain ⟨N4, e4, r4, b4, f4⟩ := st_close h4 h5 (h6'.m (by omega)) y
          refine ⟨fun _ => ⟨c, N0, N4, [], o1 ++ opL P1, te1, h1, by rw [opn]; exact h2, h3.trans e4, r4, b4, fun _ y => absurd y List.not_mem_nil, by show o1 ++ opL P1 ++ [] = _; rw [List.append_nil, h7], fun j hj => ?_, fun _ => ?_, ⟨fun L' a1 a2 _ => by omega, fun a => by omega⟩, ((f2.trans f3).trans h11).trans f4⟩, fun x => absurd z x⟩
          · rw [h8 j (by omega), upg_ne (by omega)]
          · rw [h8 (d + 1) (by omega), upg_ne (by omega)]
        · rw [if_neg (fun x => y x.2)]
          have fe : failP B n 1 (R (d + 1) 0 (advP B n σ)) = ((R (d + 1) 0 (advP B n σ)).1, (R (d + 1) 0 (advP B n σ)).2.1, 1, plT B n (R (d + 1) 0 (advP B n σ)).2.1) := by unfold failP; rw [if_pos z]
          rw [fe]
          have h5' := h5
          unfold BD at h5'
          have hn1 := h4.nq
          have j0 := h10.1 0 (by omega) (by omega) (by omega)
          have j1 := h10.1 1 (by omega) (by omega) (by omega)
          have j3 := h10.1 3 (by omega) (by omega) (by omega)
          have j4 := h10.1 4 (by omega) (by omega) (by omega)
          have st : loopE N1 = some N1 := st_stop (by omega) h4 (by omega) ⟨fun e => by rw [e] at j0; exact absurd j0 (by decide), fun e => by rw [e] at j1; exact absurd j1 (by decide), fun e => by rw [e] at j3; exact absurd j3 (by decide), fun e => by rw [e] at j3; exact absurd j3 (by decide), fun e => by rw [e] at j4; exact absurd j4 (by decide), fun e => by rw [e] at j4; exact absurd j4 (by decide)⟩ (fun e => h10.2 (by omega) (by rcases e with e | e <;> rw [e] <;> decide)) (fun e => absurd e y)
          have x1 : 2 ≤ d + 1 + 1 := by omega
          have x3 : b ≤ b + lenM o1 := by omega
          have x4 : (P1 ++ 14 :: w).length ≤ 700 := by omega
          have x5 : b + lenM o1 + (P1 ++ 14 :: w).length < 1400 := by omega
          have rf : RF b N1 1 (plT B n (R (d + 1) 0 (advP B n σ)).2.1) := ⟨h4.lay, Or.inr ⟨h4.2.1, rfl, h4.1.2.2.2.1, d + 1 + 1, h4.2.2.2.2.1.1, x1, x2⟩, b + lenM o1, P1 ++ 14 :: w, h4.2.2.1.1, x3, h4.2.2.2.1.1, h4.2.2.2.1.2.1, h4.2.2.2.1.2.2, x4, x5⟩
          exact ⟨fun x => absurd x (show (1 : Nat) ≠ 0 from Nat.one_ne_zero), fun _ => ⟨N0, N1, by rw [opn]; exact h2, h3.trans st, rf, (f2.trans f3).trans h11⟩⟩
      · obtain ⟨N0, NF, h1, h2, h3, h4⟩ := g2 z
        rw [if_neg (fun x => z x.1), fa_fail z]
        exact ⟨fun y => absurd y z, fun _ => ⟨N0, NF, by rw [opn]; exact h1, h2, h3, (f2.trans f3).trans h4⟩⟩
  · rw [if_neg c5]
    exact bad 1 (part_no r hb ht c1' (by omega) (by rw [if_neg c2, if_neg c3])) (by omega) c5
end
