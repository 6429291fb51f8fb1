/-! ===== a rule is read: joints ===== -/
section
variable {N N' N1 N2 : Mem} {B : Nat → Nat} {n t b q dp : Nat} {o : List (Int32 × Int32)} {w : List Nat} {te : Nat → Nat} {X : Nat → Nat → Prop}
theorem st_stop (hd : 1 ≤ dp) (r : RC B n t b N q o w dp te) (hl : w.length ≤ 950) (hj : cdT B n q ≠ 13 ∧ cdT B n q ≠ 14 ∧ cdT B n q ≠ 63 ∧ cdT B n q ≠ 65 ∧ cdT B n q ≠ 62 ∧ cdT B n q ≠ 67) (ht : cdT B n q = 80 ∨ cdT B n q = 81 → te dp ≠ 0) (h61 : cdT B n q = 61 → 14 ∉ w) : loopE N = some N := by
  have L := r.lay
  have s60 : F_X9_isSign 67 (60 : Int32) N = some (if cdT B n q = 80 then 1 else 0) := r.1.isS (c := 60) (by unfold sgS; omega)
  have s61 : F_X9_isSign 67 (61 : Int32) N = some (if cdT B n q = 81 then 1 else 0) := r.1.isS (c := 61) (by unfold sgS; omega)
  have s43 : F_X9_isSign 67 (43 : Int32) N = some (if cdT B n q = 63 then 1 else 0) := r.1.isS (c := 43) (by unfold sgS; omega)
  have s45 : F_X9_isSign 67 (45 : Int32) N = some (if cdT B n q = 65 then 1 else 0) := r.1.isS (c := 45) (by unfold sgS; omega)
  have s42 : F_X9_isSign 67 (42 : Int32) N = some (if cdT B n q = 62 then 1 else 0) := r.1.isS (c := 42) (by unfold sgS; omega)
  have s47 : F_X9_isSign 67 (47 : Int32) N = some (if cdT B n q = 67 then 1 else 0) := r.1.isS (c := 47) (by unfold sgS; omega)
  have s41 : F_X9_isSign 67 (41 : Int32) N = some (if cdT B n q = 61 then 1 else 0) := r.1.isS (c := 41) (by unfold sgS; omega)
  have k12 : kwI (cdT B n q) = (12 : Int32) ↔ cdT B n q = 14 := r.1.kwe (k := 12) (by omega)
  have k13 : kwI (cdT B n q) = (13 : Int32) ↔ cdT B n q = 13 := r.1.kwe (k := 13) (by omega)
  obtain ⟨j1, j2, j3, j4, j5, j6⟩ := hj
  have j191 : F_X9_expression_j191_34 67 1 N = some (.inl ((0 : Int32), N)) := by
    unfold F_X9_expression_j191_34
    rw [Lc_67 L, s43, ob_t, if_neg j3, if_pos rfl, Lc_67 L, s45, ob_t, if_neg j4, if_pos rfl, Lc_67 L, s42, ob_t, if_neg j5, if_pos rfl, Lc_67 L, s47, ob_t, if_neg j6, if_pos rfl, Lc_67 L, s41, ob_t]
    by_cases c : cdT B n q = 61
    · rw [if_pos c, if_neg (by decide), Lc_67 L, r.opened hl, ob_t, if_neg (h61 c), if_pos rfl]
    · rw [if_neg c, if_pos rfl]
  have j132 : te dp ≠ 0 → F_X9_expression_j132_34 67 1 N = some (.inl ((0 : Int32), N)) := fun h => by
    have d6 := r.2.2.2.2.1.2.1
    have t1 := (r.2.2.2.2.1.2.2 dp ⟨hd, Nat.le_refl _⟩).2
    unfold F_X9_expression_j132_34
    rw [Lp_67_40 L, ob_t, Lf_67 L, ob_t, r.2.2.2.2.1.1, La_82 L (by omega), ob_t, (r.2.2.2.2.1.2.2 dp ⟨hd, Nat.le_refl _⟩).1, if_neg (neL0 h (by omega)), j191]
  unfold loopE
  rw [loop_turn (s' := ((0 : Int32), N))]
  · refine loop_end ?_
    dsimp only
    unfold F_X9_expression_s34
    rw [if_pos rfl]
  · dsimp only
    unfold F_X9_expression_s34
    rw [if_neg (by decide), Lc_67 L, r.good, ob_t, if_neg (by decide), Lc_67 L, r.1.kw, ob_t, if_neg (fun y => j2 (k12.mp y)), if_neg (fun y => j1 (k13.mp y)), Lc_67 L, s60, ob_t]
    by_cases c : cdT B n q = 80
    · rw [if_pos c, if_neg (by decide), j132 (ht (Or.inl c))]
    · rw [if_neg c, if_pos rfl, Lc_67 L, s61, ob_t]
      by_cases c' : cdT B n q = 81
      · rw [if_pos c', if_neg (by decide), j132 (ht (Or.inr c'))]
      · rw [if_neg c', if_pos rfl, j191]
theorem st_close {P : List Nat} (r : RC B n t b N q o (P ++ 14 :: w) (dp + 1) te) (hb : BD b q o (P ++ 14 :: w)) (hP : OkP 0 P) (h61 : cdT B n q = 61) : ∃ N', loopE N = loopE N' ∧ RC B n t b N' (enT B n q) (o ++ opL P) w dp te ∧ BD b (enT B n q) (o ++ opL P) w ∧ Fr (XT b) N N' := by
  have L := r.lay
  have s60 : F_X9_isSign 67 (60 : Int32) N = some (if cdT B n q = 80 then 1 else 0) := r.1.isS (c := 60) (by unfold sgS; omega)
  have s61 : F_X9_isSign 67 (61 : Int32) N = some (if cdT B n q = 81 then 1 else 0) := r.1.isS (c := 61) (by unfold sgS; omega)
  have s43 : F_X9_isSign 67 (43 : Int32) N = some (if cdT B n q = 63 then 1 else 0) := r.1.isS (c := 43) (by unfold sgS; omega)
  have s45 : F_X9_isSign 67 (45 : Int32) N = some (if cdT B n q = 65 then 1 else 0) := r.1.isS (c := 45) (by unfold sgS; omega)
  have s42 : F_X9_isSign 67 (42 : Int32) N = some (if cdT B n q = 62 then 1 else 0) := r.1.isS (c := 42) (by unfold sgS; omega)
  have s47 : F_X9_isSign 67 (47 : Int32) N = some (if cdT B n q = 67 then 1 else 0) := r.1.isS (c := 47) (by unfold sgS; omega)
  have s41 : F_X9_isSign 67 (41 : Int32) N = some (if cdT B n q = 61 then 1 else 0) := r.1.isS (c := 41) (by unfold sgS; omega)
  have k12 : kwI (cdT B n q) = (12 : Int32) ↔ cdT B n q = 14 := r.1.kwe (k := 12) (by omega)
  have k13 : kwI (cdT B n q) = (13 : Int32) ↔ cdT B n q = 13 := r.1.kwe (k := 13) (by omega)
  have hn := r.nq
  have hb' := hb
  unfold BD at hb'
  obtain ⟨N', e, r', b', f'⟩ := r.close hb hP
  refine ⟨N', ?_, r', b', f'⟩
  unfold loopE
  refine loop_turn ?_
  dsimp only
  unfold F_X9_expression_s34
  rw [if_neg (by decide), Lc_67 L, r.good, ob_t, if_neg (by decide), Lc_67 L, r.1.kw, ob_t, if_neg (fun y => by have := k12.mp y; omega), if_neg (fun y => by have := k13.mp y; omega), Lc_67 L, s60, ob_t, if_neg (show ¬ cdT B n q = 80 by omega), if_pos rfl, Lc_67 L, s61, ob_t, if_neg (show ¬ cdT B n q = 81 by omega), if_pos rfl]
  unfold F_X9_expression_j191_34
  rw [Lc_67 L, s43, ob_t, if_neg (show ¬ cdT B n q = 63 by omega), if_pos rfl, Lc_67 L, s45, ob_t, if_neg (show ¬ cdT B n q = 65 by omega), if_pos rfl, Lc_67 L, s42, ob_t, if_neg (show ¬ cdT B n q = 62 by omega), if_pos rfl, Lc_67 L, s47, ob_t, if_neg (show ¬ cdT B n q = 67 by omega), if_pos rfl, Lc_67 L, s41, ob_t, if_pos h61, if_neg (by decide), Lc_67 L, r.opened (by omega), ob_t, if_pos (List.mem_append_right _ List.mem_cons_self), if_neg (by decide), Lc_67 L, e, ob_t]
def dsL (L : Nat) : Nat := if L = 0 then 1 else if L = 1 then 2 else if L = 2 then 4 else if L = 3 then 5 else 6
def opN (L c : Nat) : Nat := if L = 0 then 5 else if L = 1 then 4 else if L = 2 then (if c = 80 then 6 else 7) else if L = 3 then (if c = 63 then 8 else 9) else (if c = 62 then 10 else 11)
def teL (L v : Nat) : Nat := if L ≤ 1 then 0 else if L = 2 then 1 else v
def opI (L : Nat) : Int32 := if L ≤ 1 then 1 else 0
theorem op_t : ∀ L, L < 5 → ∀ c, c < 100 → jnI L c ≠ 0 → opN L c ≤ 14 ∧ opN L c ≠ 1 ∧ opN L c ≠ 2 ∧ opN L c < 14 ∧ sthN (opN L c) = dsL L := by decide
theorem jn_c {L c : Nat} (hL : L ≤ 4) (h : jnI L c ≠ 0) : c < 100 ∧ ((L = 0 ∧ c = 13) ∨ (L = 1 ∧ c = 14) ∨ (L = 2 ∧ (c = 80 ∨ c = 81)) ∨ (L = 3 ∧ (c = 63 ∨ c = 65)) ∨ (L = 4 ∧ (c = 62 ∨ c = 67))) := by
  unfold jnI at h
  repeat' split at h
  all_goals first | (exact absurd rfl h) | omega
/-- what waits is dropped, the joint waits, the next token is taken -/
theorem tail_t {op v : Nat} (r : RC B n t b N q o w dp te) (hb : BD b q o w) (hc : cdT B n q ≠ 0) (ho : op ≤ 14) (hv : v ≤ 1) : ∃ N1 N2 N3, F_X9_waitsFor 67 (nI op) N = some N1 ∧ Lay N1 ∧ mI N1 67 32 = nI dp ∧ sI N1 102 82 (nI dp) (nz (nI v)) = some N2 ∧ Lay N2 ∧ F_X9_takes 67 N2 = some N3 ∧ RC B n t b N3 (enT B n q) o (op :: w) dp (upg te dp v) ∧ BD b (enT B n q) o (op :: w) ∧ Fr (XT b) N N3 := by
  have hn := r.nq
  have ce := cd_en hn.2 hc
  unfold BD at hb
  obtain ⟨N1, e1, r1, f1⟩ := r.push (x := op) ho (by omega)
  obtain ⟨N2, e2, r2, f2⟩ := r1.tset hv
  obtain ⟨N3, e3, r3, f3⟩ := r2.take
  exact ⟨N1, N2, N3, e1, r1.lay, r1.2.2.2.2.1.1, e2, r2.lay, e3, r3, by unfold BD; rw [List.length_cons]; omega, (f1.trans f2).trans f3⟩
theorem tail_n {op : Nat} (r : RC B n t b N q o w dp te) (hb : BD b q o w) (hc : cdT B n q ≠ 0) (ho : op ≤ 14) : ∃ N1 N3, F_X9_waitsFor 67 (nI op) N = some N1 ∧ Lay N1 ∧ F_X9_takes 67 N1 = some N3 ∧ RC B n t b N3 (enT B n q) o (op :: w) dp te ∧ BD b (enT B n q) o (op :: w) ∧ Fr (XT b) N N3 := by
  have hn := r.nq
  have ce := cd_en hn.2 hc
  unfold BD at hb
  obtain ⟨N1, e1, r1, f1⟩ := r.push (x := op) ho (by omega)
  obtain ⟨N3, e3, r3, f3⟩ := r1.take
  exact ⟨N1, N3, e1, r1.lay, e3, r3, by unfold BD; rw [List.length_cons]; omega, f1.trans f3⟩
theorem st_j0 {P : List Nat} (r : RC B n t b N q o (P ++ w) dp te) (hb : BD b q o (P ++ w)) (hP : OkP (dsL 0) P) (hw : TWc (dsL 0) w) (hc : cdT B n q = 13) : ∃ N5 te5, F_X9_expression_s34 67 1 N = (F_X9_operand 67 (opI 0) N5).bind (fun N6 => some (.inl ((1 : Int32), N6))) ∧ RC B n t b N5 (enT B n q) (o ++ opL P) (opN 0 (cdT B n q) :: w) dp te5 ∧ BD b (enT B n q) (o ++ opL P) (opN 0 (cdT B n q) :: w) ∧ te5 dp = teL 0 (te dp) ∧ (∀ j, j < dp → te5 j = te j) ∧ Fr (XT b) N N5 := by
  have L := r.lay
  have s60 : F_X9_isSign 67 (60 : Int32) N = some (if cdT B n q = 80 then 1 else 0) := r.1.isS (c := 60) (by unfold sgS; omega)
  have s61 : F_X9_isSign 67 (61 : Int32) N = some (if cdT B n q = 81 then 1 else 0) := r.1.isS (c := 61) (by unfold sgS; omega)
  have s43 : F_X9_isSign 67 (43 : Int32) N = some (if cdT B n q = 63 then 1 else 0) := r.1.isS (c := 43) (by unfold sgS; omega)
  have s45 : F_X9_isSign 67 (45 : Int32) N = some (if cdT B n q = 65 then 1 else 0) := r.1.isS (c := 45) (by unfold sgS; omega)
  have s42 : F_X9_isSign 67 (42 : Int32) N = some (if cdT B n q = 62 then 1 else 0) := r.1.isS (c := 42) (by unfold sgS; omega)
  have s47 : F_X9_isSign 67 (47 : Int32) N = some (if cdT B n q = 67 then 1 else 0) := r.1.isS (c := 47) (by unfold sgS; omega)
  have s41 : F_X9_isSign 67 (41 : Int32) N = some (if cdT B n q = 61 then 1 else 0) := r.1.isS (c := 41) (by unfold sgS; omega)
  have k12 : kwI (cdT B n q) = (12 : Int32) ↔ cdT B n q = 14 := r.1.kwe (k := 12) (by omega)
  have k13 : kwI (cdT B n q) = (13 : Int32) ↔ cdT B n q = 13 := r.1.kwe (k := 13) (by omega)
  have hn := r.nq
  have hb2 := hb.drop hP
  have hb' := hb
  unfold BD at hb'
  rw [List.length_append] at hb'
  obtain ⟨N2, e2, r2, f2⟩ := RC.drops (s := dsL 0) (by decide) P o N r hP hw (by omega) (by omega)
  obtain ⟨N3, N4, N5, e3, L3, d3, e4, L4, e5, r5, b5, f5⟩ := tail_t (op := 5) (v := 0) r2 hb2 (by omega) (by omega) (by omega)
  refine ⟨N5, upg te dp 0, ?_, r5, b5, upg_eq, fun j hj => upg_ne (by omega), f2.trans f5⟩
  unfold F_X9_expression_s34
  rw [if_neg (by decide), Lc_67 L, r.good, ob_t, if_neg (by decide), Lc_67 L, r.1.kw, ob_t, if_neg (fun y => by have := k12.mp y; omega), if_pos (k13.mpr hc)]
  unfold F_X9_expression_j62_34 F_X9_expression_j74_34 F_X9_expression_j89_34
  rw [if_neg (fun y => by have := k12.mp y; omega), Lc_67 L, show (1 : Int32) = nI (dsL 0) from rfl, e2, ob_t, if_neg (fun y => by have := k12.mp y; omega), Lc_67 r2.lay, show (5 : Int32) = nI 5 from rfl, e3, ob_t, Lp_67_40 L3, ob_t, Lf_67 L3, ob_t, d3, show (nz (0 : Int32)) = nz (nI 0) from rfl, e4, ob_t, Lc_67 L4, e5, ob_t, Lc_67 r5.lay]
  rfl
theorem st_j1 {P : List Nat} (r : RC B n t b N q o (P ++ w) dp te) (hb : BD b q o (P ++ w)) (hP : OkP (dsL 1) P) (hw : TWc (dsL 1) w) (hc : cdT B n q = 14) : ∃ N5 te5, F_X9_expression_s34 67 1 N = (F_X9_operand 67 (opI 1) N5).bind (fun N6 => some (.inl ((1 : Int32), N6))) ∧ RC B n t b N5 (enT B n q) (o ++ opL P) (opN 1 (cdT B n q) :: w) dp te5 ∧ BD b (enT B n q) (o ++ opL P) (opN 1 (cdT B n q) :: w) ∧ te5 dp = teL 1 (te dp) ∧ (∀ j, j < dp → te5 j = te j) ∧ Fr (XT b) N N5 := by
  have L := r.lay
  have s60 : F_X9_isSign 67 (60 : Int32) N = some (if cdT B n q = 80 then 1 else 0) := r.1.isS (c := 60) (by unfold sgS; omega)
  have s61 : F_X9_isSign 67 (61 : Int32) N = some (if cdT B n q = 81 then 1 else 0) := r.1.isS (c := 61) (by unfold sgS; omega)
  have s43 : F_X9_isSign 67 (43 : Int32) N = some (if cdT B n q = 63 then 1 else 0) := r.1.isS (c := 43) (by unfold sgS; omega)
  have s45 : F_X9_isSign 67 (45 : Int32) N = some (if cdT B n q = 65 then 1 else 0) := r.1.isS (c := 45) (by unfold sgS; omega)
  have s42 : F_X9_isSign 67 (42 : Int32) N = some (if cdT B n q = 62 then 1 else 0) := r.1.isS (c := 42) (by unfold sgS; omega)
  have s47 : F_X9_isSign 67 (47 : Int32) N = some (if cdT B n q = 67 then 1 else 0) := r.1.isS (c := 47) (by unfold sgS; omega)
  have s41 : F_X9_isSign 67 (41 : Int32) N = some (if cdT B n q = 61 then 1 else 0) := r.1.isS (c := 41) (by unfold sgS; omega)
  have k12 : kwI (cdT B n q) = (12 : Int32) ↔ cdT B n q = 14 := r.1.kwe (k := 12) (by omega)
  have k13 : kwI (cdT B n q) = (13 : Int32) ↔ cdT B n q = 13 := r.1.kwe (k := 13) (by omega)
  have hn := r.nq
  have hb2 := hb.drop hP
  have hb' := hb
  unfold BD at hb'
  rw [List.length_append] at hb'
  obtain ⟨N2, e2, r2, f2⟩ := RC.drops (s := dsL 1) (by decide) P o N r hP hw (by omega) (by omega)
  obtain ⟨N3, N4, N5, e3, L3, d3, e4, L4, e5, r5, b5, f5⟩ := tail_t (op := 4) (v := 0) r2 hb2 (by omega) (by omega) (by omega)
  refine ⟨N5, upg te dp 0, ?_, r5, b5, upg_eq, fun j hj => upg_ne (by omega), f2.trans f5⟩
  unfold F_X9_expression_s34
  rw [if_neg (by decide), Lc_67 L, r.good, ob_t, if_neg (by decide), Lc_67 L, r.1.kw, ob_t, if_pos (k12.mpr hc)]
  unfold F_X9_expression_j62_34 F_X9_expression_j74_34 F_X9_expression_j89_34
  rw [if_pos (k12.mpr hc), Lc_67 L, show (2 : Int32) = nI (dsL 1) from rfl, e2, ob_t, if_pos (k12.mpr hc), Lc_67 r2.lay, show (4 : Int32) = nI 4 from rfl, e3, ob_t, Lp_67_40 L3, ob_t, Lf_67 L3, ob_t, d3, show (nz (0 : Int32)) = nz (nI 0) from rfl, e4, ob_t, Lc_67 L4, e5, ob_t, Lc_67 r5.lay]
  rfl
theorem st_j2 {P : List Nat} (r : RC B n t b N q o (P ++ w) dp te) (hb : BD b q o (P ++ w)) (hP : OkP (dsL 2) P) (hw : TWc (dsL 2) w) (hc : cdT B n q = 80 ∨ cdT B n q = 81) (h0 : te dp = 0) (hd : 1 ≤ dp) : ∃ N5 te5, F_X9_expression_s34 67 1 N = (F_X9_operand 67 (opI 2) N5).bind (fun N6 => some (.inl ((1 : Int32), N6))) ∧ RC B n t b N5 (enT B n q) (o ++ opL P) (opN 2 (cdT B n q) :: w) dp te5 ∧ BD b (enT B n q) (o ++ opL P) (opN 2 (cdT B n q) :: w) ∧ te5 dp = teL 2 (te dp) ∧ (∀ j, j < dp → te5 j = te j) ∧ Fr (XT b) N N5 := by
  have L := r.lay
  have s60 : F_X9_isSign 67 (60 : Int32) N = some (if cdT B n q = 80 then 1 else 0) := r.1.isS (c := 60) (by unfold sgS; omega)
  have s61 : F_X9_isSign 67 (61 : Int32) N = some (if cdT B n q = 81 then 1 else 0) := r.1.isS (c := 61) (by unfold sgS; omega)
  have s43 : F_X9_isSign 67 (43 : Int32) N = some (if cdT B n q = 63 then 1 else 0) := r.1.isS (c := 43) (by unfold sgS; omega)
  have s45 : F_X9_isSign 67 (45 : Int32) N = some (if cdT B n q = 65 then 1 else 0) := r.1.isS (c := 45) (by unfold sgS; omega)
  have s42 : F_X9_isSign 67 (42 : Int32) N = some (if cdT B n q = 62 then 1 else 0) := r.1.isS (c := 42) (by unfold sgS; omega)
  have s47 : F_X9_isSign 67 (47 : Int32) N = some (if cdT B n q = 67 then 1 else 0) := r.1.isS (c := 47) (by unfold sgS; omega)
  have s41 : F_X9_isSign 67 (41 : Int32) N = some (if cdT B n q = 61 then 1 else 0) := r.1.isS (c := 41) (by unfold sgS; omega)
  have k12 : kwI (cdT B n q) = (12 : Int32) ↔ cdT B n q = 14 := r.1.kwe (k := 12) (by omega)
  have k13 : kwI (cdT B n q) = (13 : Int32) ↔ cdT B n q = 13 := r.1.kwe (k := 13) (by omega)
  have hn := r.nq
  have hb2 := hb.drop hP
  have hb' := hb
  unfold BD at hb'
  rw [List.length_append] at hb'
  obtain ⟨N2, e2, r2, f2⟩ := RC.drops (s := dsL 2) (by decide) P o N r hP hw (by omega) (by omega)
  have z60 : F_X9_isSign 67 (60 : Int32) N2 = some (if cdT B n q = 80 then 1 else 0) := r2.1.isS (c := 60) (by unfold sgS; omega)
  have z61 : F_X9_isSign 67 (61 : Int32) N2 = some (if cdT B n q = 81 then 1 else 0) := r2.1.isS (c := 61) (by unfold sgS; omega)
  have z43 : F_X9_isSign 67 (43 : Int32) N2 = some (if cdT B n q = 63 then 1 else 0) := r2.1.isS (c := 43) (by unfold sgS; omega)
  have z45 : F_X9_isSign 67 (45 : Int32) N2 = some (if cdT B n q = 65 then 1 else 0) := r2.1.isS (c := 45) (by unfold sgS; omega)
  have z42 : F_X9_isSign 67 (42 : Int32) N2 = some (if cdT B n q = 62 then 1 else 0) := r2.1.isS (c := 42) (by unfold sgS; omega)
  have z47 : F_X9_isSign 67 (47 : Int32) N2 = some (if cdT B n q = 67 then 1 else 0) := r2.1.isS (c := 47) (by unfold sgS; omega)
  have z41 : F_X9_isSign 67 (41 : Int32) N2 = some (if cdT B n q = 61 then 1 else 0) := r2.1.isS (c := 41) (by unfold sgS; omega)
  have d6 := r.2.2.2.2.1.2.1
  obtain ⟨N3, N4, N5, e3, L3, d3, e4, L4, e5, r5, b5, f5⟩ := tail_t (op := opN 2 (cdT B n q)) (v := 1) r2 hb2 (by omega) (by
    unfold opN
    rw [if_neg (by decide), if_neg (by decide), if_pos rfl]
    split <;> omega) (by omega)
  refine ⟨N5, upg te dp 1, ?_, r5, b5, upg_eq, fun j hj => upg_ne (by omega), f2.trans f5⟩
  have j166 : ∀ v : Int32, v = nI (opN 2 (cdT B n q)) → F_X9_expression_j166_34 67 1 v 67 N2 = (F_X9_operand 67 (opI 2) N5).bind (fun N6 => some (.inl ((1 : Int32), N6))) := fun v hv => by
    unfold F_X9_expression_j166_34
    rw [hv, Lc_67 r2.lay, e3, ob_t, Lp_67_40 L3, ob_t, Lf_67 L3, ob_t, d3, show (nz (1 : Int32)) = nz (nI 1) from rfl, e4, ob_t, Lc_67 L4, e5, ob_t, Lc_67 r5.lay]
    rfl
  have j132 : F_X9_expression_j132_34 67 1 N = (F_X9_operand 67 (opI 2) N5).bind (fun N6 => some (.inl ((1 : Int32), N6))) := by
    unfold F_X9_expression_j132_34
    rw [Lp_67_40 L, ob_t, Lf_67 L, ob_t, r.2.2.2.2.1.1, La_82 L (by omega), ob_t, (r.2.2.2.2.1.2.2 dp ⟨hd, Nat.le_refl _⟩).1, h0, if_pos (show nI 0 = (0 : Int32) from rfl), Lc_67 L, show (4 : Int32) = nI (dsL 2) from rfl, e2, ob_t, Lc_67 r2.lay, z60, ob_t]
    by_cases c : cdT B n q = 80
    · rw [if_pos c, if_neg (by decide)]
      exact j166 6 (by rw [c]; rfl)
    · rw [if_neg c, if_pos rfl]
      exact j166 7 (by rw [show cdT B n q = 81 by omega]; rfl)
  unfold F_X9_expression_s34
  rw [if_neg (by decide), Lc_67 L, r.good, ob_t, if_neg (by decide), Lc_67 L, r.1.kw, ob_t, if_neg (fun y => by have := k12.mp y; omega), if_neg (fun y => by have := k13.mp y; omega), Lc_67 L, s60, ob_t]
  by_cases c : cdT B n q = 80
  · rw [if_pos c, if_neg (by decide), j132]
  · rw [if_neg c, if_pos rfl, Lc_67 L, s61, ob_t, if_pos (show cdT B n q = 81 by omega), if_neg (by decide), j132]
theorem st_j3 {P : List Nat} (r : RC B n t b N q o (P ++ w) dp te) (hb : BD b q o (P ++ w)) (hP : OkP (dsL 3) P) (hw : TWc (dsL 3) w) (hc : cdT B n q = 63 ∨ cdT B n q = 65) : ∃ N5 te5, F_X9_expression_s34 67 1 N = (F_X9_operand 67 (opI 3) N5).bind (fun N6 => some (.inl ((1 : Int32), N6))) ∧ RC B n t b N5 (enT B n q) (o ++ opL P) (opN 3 (cdT B n q) :: w) dp te5 ∧ BD b (enT B n q) (o ++ opL P) (opN 3 (cdT B n q) :: w) ∧ te5 dp = teL 3 (te dp) ∧ (∀ j, j < dp → te5 j = te j) ∧ Fr (XT b) N N5 := by
  have L := r.lay
  have s60 : F_X9_isSign 67 (60 : Int32) N = some (if cdT B n q = 80 then 1 else 0) := r.1.isS (c := 60) (by unfold sgS; omega)
  have s61 : F_X9_isSign 67 (61 : Int32) N = some (if cdT B n q = 81 then 1 else 0) := r.1.isS (c := 61) (by unfold sgS; omega)
  have s43 : F_X9_isSign 67 (43 : Int32) N = some (if cdT B n q = 63 then 1 else 0) := r.1.isS (c := 43) (by unfold sgS; omega)
  have s45 : F_X9_isSign 67 (45 : Int32) N = some (if cdT B n q = 65 then 1 else 0) := r.1.isS (c := 45) (by unfold sgS; omega)
  have s42 : F_X9_isSign 67 (42 : Int32) N = some (if cdT B n q = 62 then 1 else 0) := r.1.isS (c := 42) (by unfold sgS; omega)
  have s47 : F_X9_isSign 67 (47 : Int32) N = some (if cdT B n q = 67 then 1 else 0) := r.1.isS (c := 47) (by unfold sgS; omega)
  have s41 : F_X9_isSign 67 (41 : Int32) N = some (if cdT B n q = 61 then 1 else 0) := r.1.isS (c := 41) (by unfold sgS; omega)
  have k12 : kwI (cdT B n q) = (12 : Int32) ↔ cdT B n q = 14 := r.1.kwe (k := 12) (by omega)
  have k13 : kwI (cdT B n q) = (13 : Int32) ↔ cdT B n q = 13 := r.1.kwe (k := 13) (by omega)
  have hn := r.nq
  have hb2 := hb.drop hP
  have hb' := hb
  unfold BD at hb'
  rw [List.length_append] at hb'
  obtain ⟨N2, e2, r2, f2⟩ := RC.drops (s := dsL 3) (by decide) P o N r hP hw (by omega) (by omega)
  have z60 : F_X9_isSign 67 (60 : Int32) N2 = some (if cdT B n q = 80 then 1 else 0) := r2.1.isS (c := 60) (by unfold sgS; omega)
  have z61 : F_X9_isSign 67 (61 : Int32) N2 = some (if cdT B n q = 81 then 1 else 0) := r2.1.isS (c := 61) (by unfold sgS; omega)
  have z43 : F_X9_isSign 67 (43 : Int32) N2 = some (if cdT B n q = 63 then 1 else 0) := r2.1.isS (c := 43) (by unfold sgS; omega)
  have z45 : F_X9_isSign 67 (45 : Int32) N2 = some (if cdT B n q = 65 then 1 else 0) := r2.1.isS (c := 45) (by unfold sgS; omega)
  have z42 : F_X9_isSign 67 (42 : Int32) N2 = some (if cdT B n q = 62 then 1 else 0) := r2.1.isS (c := 42) (by unfold sgS; omega)
  have z47 : F_X9_isSign 67 (47 : Int32) N2 = some (if cdT B n q = 67 then 1 else 0) := r2.1.isS (c := 47) (by unfold sgS; omega)
  have z41 : F_X9_isSign 67 (41 : Int32) N2 = some (if cdT B n q = 61 then 1 else 0) := r2.1.isS (c := 41) (by unfold sgS; omega)
  obtain ⟨N3, N5, e3, L3, e5, r5, b5, f5⟩ := tail_n (op := opN 3 (cdT B n q)) r2 hb2 (by omega) (by
    unfold opN
    rw [if_neg (by decide), if_neg (by decide), if_neg (by decide), if_pos rfl]
    split <;> omega)
  refine ⟨N5, te, ?_, r5, b5, rfl, fun j hj => rfl, f2.trans f5⟩
  have jb : ∀ v : Int32, v = nI (opN 3 (cdT B n q)) → F_X9_expression_j231_34 67 1 v 67 N2 = (F_X9_operand 67 (opI 3) N5).bind (fun N6 => some (.inl ((1 : Int32), N6))) := fun v hv => by
    unfold F_X9_expression_j231_34
    rw [hv, Lc_67 r2.lay, e3, ob_t, Lc_67 L3, e5, ob_t, Lc_67 r5.lay]
    rfl
  have ja : F_X9_expression_j209_34 67 1 N = (F_X9_operand 67 (opI 3) N5).bind (fun N6 => some (.inl ((1 : Int32), N6))) := by
    unfold F_X9_expression_j209_34
    rw [Lc_67 L, show (5 : Int32) = nI (dsL 3) from rfl, e2, ob_t, Lc_67 r2.lay, z43, ob_t]
    by_cases c : cdT B n q = 63
    · rw [if_pos c, if_neg (by decide)]
      exact jb 8 (by rw [c]; rfl)
    · rw [if_neg c, if_pos rfl]
      exact jb 9 (by rw [show cdT B n q = 65 by omega]; rfl)
  unfold F_X9_expression_s34
  rw [if_neg (by decide), Lc_67 L, r.good, ob_t, if_neg (by decide), Lc_67 L, r.1.kw, ob_t, if_neg (fun y => by have := k12.mp y; omega), if_neg (fun y => by have := k13.mp y; omega), Lc_67 L, s60, ob_t, if_neg (show ¬ cdT B n q = 80 by omega), if_pos rfl, Lc_67 L, s61, ob_t, if_neg (show ¬ cdT B n q = 81 by omega), if_pos rfl]
  unfold F_X9_expression_j191_34
  rw [Lc_67 L, s43, ob_t]
  by_cases c : cdT B n q = 63
  · rw [if_pos c, if_neg (by decide), ja]
  · rw [if_neg c, if_pos rfl, Lc_67 L, s45, ob_t, if_pos (show cdT B n q = 65 by omega), if_neg (by decide), ja]
theorem st_j4 {P : List Nat} (r : RC B n t b N q o (P ++ w) dp te) (hb : BD b q o (P ++ w)) (hP : OkP (dsL 4) P) (hw : TWc (dsL 4) w) (hc : cdT B n q = 62 ∨ cdT B n q = 67) : ∃ N5 te5, F_X9_expression_s34 67 1 N = (F_X9_operand 67 (opI 4) N5).bind (fun N6 => some (.inl ((1 : Int32), N6))) ∧ RC B n t b N5 (enT B n q) (o ++ opL P) (opN 4 (cdT B n q) :: w) dp te5 ∧ BD b (enT B n q) (o ++ opL P) (opN 4 (cdT B n q) :: w) ∧ te5 dp = teL 4 (te dp) ∧ (∀ j, j < dp → te5 j = te j) ∧ Fr (XT b) N N5 := by
  have L := r.lay
  have s60 : F_X9_isSign 67 (60 : Int32) N = some (if cdT B n q = 80 then 1 else 0) := r.1.isS (c := 60) (by unfold sgS; omega)
  have s61 : F_X9_isSign 67 (61 : Int32) N = some (if cdT B n q = 81 then 1 else 0) := r.1.isS (c := 61) (by unfold sgS; omega)
  have s43 : F_X9_isSign 67 (43 : Int32) N = some (if cdT B n q = 63 then 1 else 0) := r.1.isS (c := 43) (by unfold sgS; omega)
  have s45 : F_X9_isSign 67 (45 : Int32) N = some (if cdT B n q = 65 then 1 else 0) := r.1.isS (c := 45) (by unfold sgS; omega)
  have s42 : F_X9_isSign 67 (42 : Int32) N = some (if cdT B n q = 62 then 1 else 0) := r.1.isS (c := 42) (by unfold sgS; omega)
  have s47 : F_X9_isSign 67 (47 : Int32) N = some (if cdT B n q = 67 then 1 else 0) := r.1.isS (c := 47) (by unfold sgS; omega)
  have s41 : F_X9_isSign 67 (41 : Int32) N = some (if cdT B n q = 61 then 1 else 0) := r.1.isS (c := 41) (by unfold sgS; omega)
  have k12 : kwI (cdT B n q) = (12 : Int32) ↔ cdT B n q = 14 := r.1.kwe (k := 12) (by omega)
  have k13 : kwI (cdT B n q) = (13 : Int32) ↔ cdT B n q = 13 := r.1.kwe (k := 13) (by omega)
  have hn := r.nq
  have hb2 := hb.drop hP
  have hb' := hb
  unfold BD at hb'
  rw [List.length_append] at hb'
  obtain ⟨N2, e2, r2, f2⟩ := RC.drops (s := dsL 4) (by decide) P o N r hP hw (by omega) (by omega)
  have z60 : F_X9_isSign 67 (60 : Int32) N2 = some (if cdT B n q = 80 then 1 else 0) := r2.1.isS (c := 60) (by unfold sgS; omega)
  have z61 : F_X9_isSign 67 (61 : Int32) N2 = some (if cdT B n q = 81 then 1 else 0) := r2.1.isS (c := 61) (by unfold sgS; omega)
  have z43 : F_X9_isSign 67 (43 : Int32) N2 = some (if cdT B n q = 63 then 1 else 0) := r2.1.isS (c := 43) (by unfold sgS; omega)
  have z45 : F_X9_isSign 67 (45 : Int32) N2 = some (if cdT B n q = 65 then 1 else 0) := r2.1.isS (c := 45) (by unfold sgS; omega)
  have z42 : F_X9_isSign 67 (42 : Int32) N2 = some (if cdT B n q = 62 then 1 else 0) := r2.1.isS (c := 42) (by unfold sgS; omega)
  have z47 : F_X9_isSign 67 (47 : Int32) N2 = some (if cdT B n q = 67 then 1 else 0) := r2.1.isS (c := 47) (by unfold sgS; omega)
  have z41 : F_X9_isSign 67 (41 : Int32) N2 = some (if cdT B n q = 61 then 1 else 0) := r2.1.isS (c := 41) (by unfold sgS; omega)
  obtain ⟨N3, N5, e3, L3, e5, r5, b5, f5⟩ := tail_n (op := opN 4 (cdT B n q)) r2 hb2 (by omega) (by
    unfold opN
    rw [if_neg (by decide), if_neg (by decide), if_neg (by decide), if_neg (by decide)]
    split <;> omega)
  refine ⟨N5, te, ?_, r5, b5, rfl, fun j hj => rfl, f2.trans f5⟩
  have jb : ∀ v : Int32, v = nI (opN 4 (cdT B n q)) → F_X9_expression_j287_34 67 1 v 67 N2 = (F_X9_operand 67 (opI 4) N5).bind (fun N6 => some (.inl ((1 : Int32), N6))) := fun v hv => by
    unfold F_X9_expression_j287_34
    rw [hv, Lc_67 r2.lay, e3, ob_t, Lc_67 L3, e5, ob_t, Lc_67 r5.lay]
    rfl
  have ja : F_X9_expression_j264_34 67 1 N = (F_X9_operand 67 (opI 4) N5).bind (fun N6 => some (.inl ((1 : Int32), N6))) := by
    unfold F_X9_expression_j264_34
    rw [Lc_67 L, show (6 : Int32) = nI (dsL 4) from rfl, e2, ob_t, Lc_67 r2.lay, z42, ob_t]
    by_cases c : cdT B n q = 62
    · rw [if_pos c, if_neg (by decide)]
      exact jb 10 (by rw [c]; rfl)
    · rw [if_neg c, if_pos rfl]
      exact jb 11 (by rw [show cdT B n q = 67 by omega]; rfl)
  unfold F_X9_expression_s34
  rw [if_neg (by decide), Lc_67 L, r.good, ob_t, if_neg (by decide), Lc_67 L, r.1.kw, ob_t, if_neg (fun y => by have := k12.mp y; omega), if_neg (fun y => by have := k13.mp y; omega), Lc_67 L, s60, ob_t, if_neg (show ¬ cdT B n q = 80 by omega), if_pos rfl, Lc_67 L, s61, ob_t, if_neg (show ¬ cdT B n q = 81 by omega), if_pos rfl]
  unfold F_X9_expression_j191_34
  rw [Lc_67 L, s43, ob_t, if_neg (show ¬ cdT B n q = 63 by omega), if_pos rfl, Lc_67 L, s45, ob_t, if_neg (show ¬ cdT B n q = 65 by omega), if_pos rfl, Lc_67 L, s42, ob_t]
  by_cases c : cdT B n q = 62
  · rw [if_pos c, if_neg (by decide), ja]
  · rw [if_neg c, if_pos rfl, Lc_67 L, s47, ob_t, if_pos (show cdT B n q = 67 by omega), if_neg (by decide), ja]
theorem st_join {L : Nat} {P : List Nat} (hd : 1 ≤ dp) (hL : L ≤ 4) (r : RC B n t b N q o (P ++ w) dp te) (hb : BD b q o (P ++ w)) (hP : OkP (dsL L) P) (hw : TWc (dsL L) w) (hj : jnI L (cdT B n q) ≠ 0) (h0 : L = 2 → te dp = 0) : ∃ N5 te5, F_X9_expression_s34 67 1 N = (F_X9_operand 67 (opI L) N5).bind (fun N6 => some (.inl ((1 : Int32), N6))) ∧ RC B n t b N5 (enT B n q) (o ++ opL P) (opN L (cdT B n q) :: w) dp te5 ∧ BD b (enT B n q) (o ++ opL P) (opN L (cdT B n q) :: w) ∧ te5 dp = teL L (te dp) ∧ (∀ j, j < dp → te5 j = te j) ∧ Fr (XT b) N N5 := by
  rcases (jn_c hL hj).2 with ⟨rfl, c⟩ | ⟨rfl, c⟩ | ⟨rfl, c⟩ | ⟨rfl, c⟩ | ⟨rfl, c⟩
  · exact st_j0 r hb hP hw c
  · exact st_j1 r hb hP hw c
  · exact st_j2 r hb hP hw c (h0 rfl) hd
  · exact st_j3 r hb hP hw c
  · exact st_j4 r hb hP hw c
end
