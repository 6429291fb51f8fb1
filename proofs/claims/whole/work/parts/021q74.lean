/-! ===== a rule is read: what the reference keeps ===== -/
section
variable {N N' N1 N2 : Mem} {B : Nat → Nat} {n t b q dp : Nat} {o : List (Int32 × Int32)} {w : List Nat} {te : Nat → Nat} {X : Nat → Nat → Prop}
def stW (f : Nat → Int32) : List Nat → Prop
  | [] => True
  | x :: w => f w.length = nI x ∧ stW f w
def lyQ (f : Nat → Int32) : List (Int32 × Int32) → Nat → Prop
  | [], _ => True
  | p :: r, pos => f pos = p.1 ∧ if p.1 = 1 ∨ p.1 = 2 then f (pos + 1) = p.2 ∧ lyQ f r (pos + 2) else lyQ f r (pos + 1)
theorem stW_g {f g : Nat → Int32} : ∀ w : List Nat, (∀ i, i < w.length → g i = f i) → stW f w → stW g w
  | [], _, _ => trivial
  | x :: w, h, a => ⟨(h w.length (by rw [List.length_cons]; omega)).trans a.1, stW_g w (fun i hi => h i (by rw [List.length_cons]; omega)) a.2⟩
theorem lenM_a : ∀ o o' : List (Int32 × Int32), lenM (o ++ o') = lenM o + lenM o'
  | [], o' => by show lenM o' = 0 + lenM o'; omega
  | p :: r, o' => by
    show (if p.1 = 1 ∨ p.1 = 2 then lenM (r ++ o') + 2 else lenM (r ++ o') + 1) = (if p.1 = 1 ∨ p.1 = 2 then lenM r + 2 else lenM r + 1) + lenM o'
    rw [lenM_a r o']; split <;> omega
theorem lyQ_a {f : Nat → Int32} : ∀ (o o' : List (Int32 × Int32)) (b : Nat), lyQ f o b → lyQ f o' (b + lenM o) → lyQ f (o ++ o') b
  | [], o', b, _, h => h
  | p :: r, o', b, a, h => by
    have h : lyQ f o' (b + (if p.1 = 1 ∨ p.1 = 2 then lenM r + 2 else lenM r + 1)) := h
    obtain ⟨a1, a2⟩ := a
    refine ⟨a1, ?_⟩
    by_cases c : p.1 = 1 ∨ p.1 = 2
    · rw [if_pos c] at a2 h ⊢
      exact ⟨a2.1, lyQ_a r o' (b + 2) a2.2 (by rw [show b + 2 + lenM r = b + (lenM r + 2) by omega]; exact h)⟩
    · rw [if_neg c] at a2 h ⊢
      exact lyQ_a r o' (b + 1) a2 (by rw [show b + 1 + lenM r = b + (lenM r + 1) by omega]; exact h)
theorem lyQ_g {f g : Nat → Int32} : ∀ (o : List (Int32 × Int32)) (b : Nat), (∀ i, b ≤ i → i < b + lenM o → g i = f i) → lyQ f o b → lyQ g o b
  | [], _, _, _ => trivial
  | p :: r, b, h, a => by
    have h : ∀ i, b ≤ i → i < b + (if p.1 = 1 ∨ p.1 = 2 then lenM r + 2 else lenM r + 1) → g i = f i := h
    obtain ⟨a1, a2⟩ := a
    by_cases c : p.1 = 1 ∨ p.1 = 2
    · rw [if_pos c] at h
      refine ⟨(h b (by omega) (by omega)).trans a1, ?_⟩
      rw [if_pos c] at a2 ⊢
      exact ⟨(h (b + 1) (by omega) (by omega)).trans a2.1, lyQ_g r (b + 2) (fun i h1 h2 => h i (by omega) (by omega)) a2.2⟩
    · rw [if_neg c] at h
      refine ⟨(h b (by omega) (by omega)).trans a1, ?_⟩
      rw [if_neg c] at a2 ⊢
      exact lyQ_g r (b + 1) (fun i h1 h2 => h i (by omega) (by omega)) a2
theorem lyQ_M {f : Nat → Int32} : ∀ (o : List (Int32 × Int32)) (b : Nat), lyQ f o b → f (b + lenM o) = 0 → lyM f o b
  | [], b, _, h => h
  | p :: r, b, a, h => by
    have h : f (b + (if p.1 = 1 ∨ p.1 = 2 then lenM r + 2 else lenM r + 1)) = 0 := h
    obtain ⟨a1, a2⟩ := a
    refine ⟨a1, ?_⟩
    by_cases c : p.1 = 1 ∨ p.1 = 2
    · rw [if_pos c] at a2 h ⊢
      exact ⟨a2.1, lyQ_M r (b + 2) a2.2 (by rw [show b + 2 + lenM r = b + (lenM r + 2) by omega]; exact h)⟩
    · rw [if_neg c] at a2 h ⊢
      exact lyQ_M r (b + 1) a2 (by rw [show b + 1 + lenM r = b + (lenM r + 1) by omega]; exact h)
/-- what a rule's reading writes in the reference -/
def XT (b k j : Nat) : Prop := (k = 67 ∧ (j = 13 ∨ j = 14 ∨ (17 ≤ j ∧ j ≤ 22) ∨ j = 29 ∨ j = 31 ∨ j = 32)) ∨ (k = 80 ∧ b ≤ j) ∨ k = 81 ∨ k = 82
theorem XM_T {k j : Nat} (h : XM k j) : XT b k j := by unfold XM at h; unfold XT; omega
theorem TkM.fr (s : TkM B n q N) (f : Fr X N N') (hL : mL N' = mL N) (h : ∀ j, (16 ≤ j ∧ j ≤ 22) → ¬ X 67 j) (h2 : ∀ i, ¬ X 73 i) : TkM B n q N' := by
  obtain ⟨a1, a2, a3, a4, a5, a6, a7, a8, a9⟩ := s
  exact ⟨a1.fr f (h 16 (by omega)) h2, a2, (f.at (h 17 (by omega))).trans a3, (f.at (h 19 (by omega))).trans a4, (f.at (h 18 (by omega))).trans a5, (f.at (h 20 (by omega))).trans a6, fun x y => (f.at (h 21 (by omega))).trans (a7 x y), fun x => (f.at (h 22 (by omega))).trans (a8 x), fun x y => by rw [hL]; exact a9 x y⟩
/-- the reference within a rule: the token, the code so far, what waits, how deep, whether it is tested there -/
def RC (B : Nat → Nat) (n t b : Nat) (N : Mem) (q : Nat) (o : List (Int32 × Int32)) (w : List Nat) (dp : Nat) (te : Nat → Nat) : Prop :=
  TkM B n q N ∧ mI N 67 13 = 0 ∧ (mI N 67 29 = nI (b + lenM o) ∧ lyQ (mI N 80) o b) ∧ (mI N 67 31 = nI w.length ∧ stW (mI N 81) w ∧ ∀ x ∈ w, x ≤ 14) ∧ (mI N 67 32 = nI dp ∧ dp ≤ 6 ∧ ∀ j, (1 ≤ j ∧ j ≤ dp) → mI N 82 j = nI (te j) ∧ te j ≤ 1) ∧ (mI N 67 30 = nI (5 + t) ∧ mI N 67 14 = -1)
def BD (b q : Nat) (o : List (Int32 × Int32)) (w : List Nat) : Prop := b + lenM o + w.length + 2 ≤ 2 * q ∧ w.length ≤ q
theorem RC.lay (r : RC B n t b N q o w dp te) : Lay N := r.1.1.1
theorem RC.nq (r : RC B n t b N q o w dp te) : n ≤ 700 ∧ q ≤ n := ⟨r.1.1.2.1, r.1.2.1⟩
theorem RC.take (r : RC B n t b N q o w dp te) : ∃ N', F_X9_takes 67 N = some N' ∧ RC B n t b N' (enT B n q) o w dp te ∧ Fr (XT b) N N' := by
  obtain ⟨N', e, k, f⟩ := r.1.take
  obtain ⟨-, r2, r3, r4, r5, r6⟩ := r
  have o7 : ∀ j, (j < 17 ∨ 22 < j) → mI N' 67 j = mI N 67 j := fun j hj => f.at (by unfold XM; omega)
  have oc : ∀ k, k ≠ 67 → mI N' k = mI N k := fun k hk => funext fun j => f.at (by unfold XM; omega)
  exact ⟨N', e, ⟨k, (o7 13 (by omega)).trans r2, ⟨(o7 29 (by omega)).trans r3.1, by rw [oc 80 (by omega)]; exact r3.2⟩, ⟨(o7 31 (by omega)).trans r4.1, by rw [oc 81 (by omega)]; exact r4.2⟩, ⟨(o7 32 (by omega)).trans r5.1, by rw [oc 82 (by omega)]; exact r5.2⟩, ⟨(o7 30 (by omega)).trans r6.1, (o7 14 (by omega)).trans r6.2⟩⟩, f.mono fun _ _ => XM_T⟩
theorem BD.take (h : BD b q o w) (hq : q ≤ n) : BD b (enT B n q) o w := by
  have := pl_le (B := B) hq
  have := en_le (B := B) hq
  unfold BD at h ⊢
  omega
theorem RC.push {x : Nat} (r : RC B n t b N q o w dp te) (hx : x ≤ 14) (hw : w.length < 950) : ∃ N', F_X9_waitsFor 67 (nI x) N = some N' ∧ RC B n t b N' q o (x :: w) dp te ∧ Fr (XT b) N N' := by
  obtain ⟨r1, r2, r3, r4, r5, r6⟩ := r
  have L := r1.1.1
  have f : Fr (fun k j => (k = 67 ∧ j = 31) ∨ k = 81) N (stI (stI N 81 w.length (nI x)) 67 31 (nI (w.length + 1))) := (Fr.rfl'.st (Or.inr rfl)).st (Or.inl ⟨rfl, rfl⟩)
  refine ⟨_, ?_, ⟨r1.fr f rfl (fun j hj => by omega) (fun i => by omega), (f.at (by omega)).trans r2, ⟨(f.at (by omega)).trans r3.1, lyQ_g o b (fun i _ _ => f.at (by omega)) r3.2⟩, ⟨?_, ⟨?_, stW_g w (fun i hi => ?_) r4.2.1⟩, fun y hy => ?_⟩, ⟨(f.at (by omega)).trans r5.1, r5.2.1, fun j hj => ⟨(f.at (by omega)).trans (r5.2.2 j hj).1, (r5.2.2 j hj).2⟩⟩, ⟨(f.at (by omega)).trans r6.1, (f.at (by omega)).trans r6.2⟩⟩, f.mono fun k j y => by unfold XT; omega⟩
  · unfold F_X9_waitsFor
    rw [Lp_67_39 L, ob_t, Lf_67 L, ob_t, r4.1, Lw_81 L hw, ob_t, Lf_67 L.st, ob_t, mI_st, if_neg (by omega), r4.1, nI_1, Ls_67 L.st, ob_t]
  · rw [mI_st, if_pos ⟨rfl, rfl⟩, List.length_cons]
  · rw [mI_st, if_neg (by omega), mI_st, if_pos ⟨rfl, rfl⟩]
  · rw [mI_st, if_neg (by omega), mI_st, if_neg (by omega)]
  · rcases List.mem_cons.mp hy with z | z
    · omega
    · exact r4.2.2 y z
theorem M_puts {s : Nat} {v : Int32} (L : Lay N) (h : mI N 67 29 = nI s) (hs : s < 1400) : F_X9_puts 67 v N = some (stI (stI N 80 s v) 67 29 (nI (s + 1))) := by
  unfold F_X9_puts
  rw [Lp_67_38 L, ob_t, Lf_67 L, ob_t, h, Lw_80 L hs, ob_t, Lf_67 L.st, ob_t, mI_st, if_neg (by omega), h, nI_1, Ls_67 L.st, ob_t]
theorem RC.put1 {y : Nat} (r : RC B n t b N q o w dp te) (hy : y ≠ 1 ∧ y ≠ 2) (h14 : y ≤ 14) (hs : b + lenM o < 1400) : ∃ N', F_X9_puts 67 (nI y) N = some N' ∧ RC B n t b N' q (o ++ [(nI y, 0)]) w dp te ∧ Fr (XT b) N N' ∧ mI N' 67 31 = mI N 67 31 := by
  obtain ⟨r1, r2, r3, r4, r5, r6⟩ := r
  have L := r1.1.1
  have f : Fr (fun k j => (k = 67 ∧ j = 29) ∨ (k = 80 ∧ j = b + lenM o)) N (stI (stI N 80 (b + lenM o) (nI y)) 67 29 (nI (b + lenM o + 1))) := (Fr.rfl'.st (Or.inr ⟨rfl, rfl⟩)).st (Or.inl ⟨rfl, rfl⟩)
  have n12 : ¬ (nI y = 1 ∨ nI y = 2) := by
    rintro (z | z)
    · exact hy.1 ((nI_eq (b := 1) (by omega) (by omega)).mp z)
    · exact hy.2 ((nI_eq (b := 2) (by omega) (by omega)).mp z)
  have l1 : lenM [(nI y, (0 : Int32))] = 1 := by show (if nI y = 1 ∨ nI y = 2 then lenM [] + 2 else lenM [] + 1) = 1; rw [if_neg n12]; rfl
  refine ⟨_, M_puts L r3.1 hs, ⟨r1.fr f rfl (fun j hj => by omega) (fun i => by omega), (f.at (by omega)).trans r2, ⟨?_, lyQ_a o _ b (lyQ_g o b (fun i _ _ => f.at (by omega)) r3.2) ⟨?_, ?_⟩⟩, ⟨(f.at (by omega)).trans r4.1, stW_g w (fun i hi => f.at (by omega)) r4.2.1, r4.2.2⟩, ⟨(f.at (by omega)).trans r5.1, r5.2.1, fun j hj => ⟨(f.at (by omega)).trans (r5.2.2 j hj).1, (r5.2.2 j hj).2⟩⟩, ⟨(f.at (by omega)).trans r6.1, (f.at (by omega)).trans r6.2⟩⟩, f.mono fun k j y => by unfold XT; omega, f.at (by omega)⟩
  · rw [mI_st, if_pos ⟨rfl, rfl⟩, lenM_a, l1]; rfl
  · rw [mI_st, if_neg (by omega), mI_st, if_pos ⟨rfl, rfl⟩]
  · rw [if_neg n12]; trivial
theorem RC.put2 {y : Nat} {v : Int32} (r : RC B n t b N q o w dp te) (hy : y = 1 ∨ y = 2) (hs : b + lenM o + 1 < 1400) : ∃ N1 N', F_X9_puts 67 (nI y) N = some N1 ∧ mI N1 67 21 = mI N 67 21 ∧ F_X9_puts 67 v N1 = some N' ∧ Lay N1 ∧ RC B n t b N' q (o ++ [(nI y, v)]) w dp te ∧ Fr (XT b) N N' := by
  obtain ⟨r1, r2, r3, r4, r5, r6⟩ := r
  have L := r1.1.1
  have f1 : Fr (fun k j => (k = 67 ∧ j = 29) ∨ (k = 80 ∧ b + lenM o ≤ j)) N (stI (stI N 80 (b + lenM o) (nI y)) 67 29 (nI (b + lenM o + 1))) := (Fr.rfl'.st (Or.inr ⟨rfl, Nat.le_refl _⟩)).st (Or.inl ⟨rfl, rfl⟩)
  have f : Fr (fun k j => (k = 67 ∧ j = 29) ∨ (k = 80 ∧ b + lenM o ≤ j)) N (stI (stI (stI (stI N 80 (b + lenM o) (nI y)) 67 29 (nI (b + lenM o + 1))) 80 (b + lenM o + 1) v) 67 29 (nI (b + lenM o + 1 + 1))) := (f1.st (Or.inr ⟨rfl, by omega⟩)).st (Or.inl ⟨rfl, rfl⟩)
  have n12 : nI y = 1 ∨ nI y = 2 := by
    rcases hy with z | z
    · left; rw [z]; rfl
    · right; rw [z]; rfl
  have l1 : lenM [(nI y, v)] = 2 := by show (if nI y = 1 ∨ nI y = 2 then lenM [] + 2 else lenM [] + 1) = 2; rw [if_pos n12]; rfl
  refine ⟨_, _, M_puts L r3.1 (by omega), f1.at (by omega), M_puts L.st.st (by rw [mI_st, if_pos ⟨rfl, rfl⟩]) hs, L.st.st, ⟨r1.fr f rfl (fun j hj => by omega) (fun i => by omega), (f.at (by omega)).trans r2, ⟨?_, lyQ_a o _ b (lyQ_g o b (fun i _ _ => f.at (by omega)) r3.2) ⟨?_, ?_⟩⟩, ⟨(f.at (by omega)).trans r4.1, stW_g w (fun i hi => f.at (by omega)) r4.2.1, r4.2.2⟩, ⟨(f.at (by omega)).trans r5.1, r5.2.1, fun j hj => ⟨(f.at (by omega)).trans (r5.2.2 j hj).1, (r5.2.2 j hj).2⟩⟩, ⟨(f.at (by omega)).trans r6.1, (f.at (by omega)).trans r6.2⟩⟩, f.mono fun k j y => by unfold XT; omega⟩
  · rw [mI_st, if_pos ⟨rfl, rfl⟩, lenM_a, l1]; rfl
  · rw [mI_st, if_neg (by omega), mI_st, if_neg (by omega), mI_st, if_neg (by omega), mI_st, if_pos ⟨rfl, rfl⟩]
  · rw [if_pos n12]
    exact ⟨by rw [mI_st, if_neg (by omega), mI_st, if_pos ⟨rfl, rfl⟩], trivial⟩
theorem RC.tset {v : Nat} (r : RC B n t b N q o w dp te) (hv : v ≤ 1) : ∃ N', sI N 102 82 (nI dp) (nz (nI v)) = some N' ∧ RC B n t b N' q o w dp (upg te dp v) ∧ Fr (XT b) N N' := by
  obtain ⟨r1, r2, r3, r4, r5, r6⟩ := r
  have L := r1.1.1
  have nzv : nz (nI v) = nI v := by
    have : v = 0 ∨ v = 1 := by omega
    rcases this with rfl | rfl <;> decide
  have f : Fr (fun k _ => k = 82) N (stI N 82 dp (nI v)) := Fr.rfl'.st rfl
  refine ⟨_, by rw [nzv]; exact Lw_82 L (by omega), ⟨r1.fr f rfl (fun j hj => by omega) (fun i => by omega), (f.at (by omega)).trans r2, ⟨(f.at (by omega)).trans r3.1, lyQ_g o b (fun i _ _ => f.at (by omega)) r3.2⟩, ⟨(f.at (by omega)).trans r4.1, stW_g w (fun i hi => f.at (by omega)) r4.2.1, r4.2.2⟩, ⟨(f.at (by omega)).trans r5.1, r5.2.1, fun j hj => ?_⟩, ⟨(f.at (by omega)).trans r6.1, (f.at (by omega)).trans r6.2⟩⟩, f.mono fun k j y => by unfold XT; omega⟩
  rw [mI_st]
  by_cases e : j = dp
  · rw [if_pos ⟨rfl, e⟩, e, upg_eq]; exact ⟨rfl, hv⟩
  · rw [if_neg (fun y => e y.2), upg_ne e]; exact r5.2.2 j hj
def sthN (x : Nat) : Nat := if x = 5 then 1 else if x = 4 then 2 else if x = 3 then 3 else if x = 6 then 4 else if x = 7 then 4 else if x = 8 then 5 else if x = 9 then 5 else 6
theorem sth_6 (x : Nat) : sthN x < 2 ^ 31 := by
  unfold sthN
  repeat' split
  all_goals omega
theorem sth_t : ∀ x, x ≤ 14 → (if nI x = 5 then (1 : Int32) else if nI x = 4 then 2 else if nI x = 3 then 3 else if nI x = 6 then 4 else if nI x = 7 then 4 else if nI x = 8 then 5 else if nI x = 9 then 5 else 6) = nI (sthN x) := by decide
theorem M_sth {x : Nat} (hx : x ≤ 14) : F_X9_strength (nI x) N = some (nI (sthN x)) := by
  rw [← sth_t x hx]; unfold F_X9_strength
  repeat' split
  all_goals first | rfl | contradiction
theorem M_open {x : Nat} (hx : x ≤ 14) : F_X9_isOpen (nI x) N = some (if x = 14 then 1 else 0) := by
  unfold F_X9_isOpen
  by_cases c : x = 14
  · rw [if_neg (by rw [c]; decide), if_pos c]
  · rw [if_pos (show nI x < (14 : Int32) from nI_lt (b := 14) (by omega) (by omega)), if_neg c]
def opL (P : List Nat) : List (Int32 × Int32) := P.map fun x => (nI x, 0)
/-- nothing is dropped there -/
def TWc (s : Nat) (w : List Nat) : Prop := ∀ x r, w = x :: r → x = 14 ∨ sthN x < s
theorem RC.drops {s : Nat} (hs : s ≤ 6) : ∀ (P : List Nat) (o : List (Int32 × Int32)) (N : Mem), RC B n t b N q o (P ++ w) dp te → (∀ x ∈ P, x ≠ 1 ∧ x ≠ 2 ∧ x < 14 ∧ s ≤ sthN x) → TWc s w → b + lenM o + P.length ≤ 1400 → P.length + w.length ≤ 950 → ∃ N', F_X9_drops 67 (nI s) N = some N' ∧ RC B n t b N' q (o ++ opL P) w dp te ∧ Fr (XT b) N N' := by
  have key : ∀ (P : List Nat) (o : List (Int32 × Int32)) (N : Mem), RC B n t b N q o (P ++ w) dp te → (∀ x ∈ P, x ≠ 1 ∧ x ≠ 2 ∧ x < 14 ∧ s ≤ sthN x) → TWc s w → b + lenM o + P.length ≤ 1400 → P.length + w.length ≤ 950 → ∃ N', loop (fun s' => F_X9_drops_s0 67 (nI s) s') N = some N' ∧ RC B n t b N' q (o ++ opL P) w dp te ∧ Fr (XT b) N N' := by
    intro P
    induction P with
    | nil =>
      intro o N r _ ht hb hl
      refine ⟨N, loop_end ?_, by show RC B n t b N q (o ++ []) w dp te; rw [List.append_nil]; exact r, Fr.rfl'⟩
      have r : RC B n t b N q o w dp te := r
      have L := r.lay
      unfold F_X9_drops_s0
      rw [Lf_67 L, ob_t, r.2.2.2.1.1]
      cases w with
      | nil => rw [if_pos (show nI ([] : List Nat).length ≤ 0 from by decide)]
      | cons x v =>
        have h950 : v.length < 950 := by rw [List.length_cons] at hl; omega
        have hx := r.2.2.2.1.2.2 x List.mem_cons_self
        have sb : nI (v.length + 1) - (1 : Int32) = nI v.length := nI_sub (a := v.length + 1) (b := 1) (by omega)
        rw [List.length_cons, if_neg (show ¬ nI (v.length + 1) ≤ 0 from nI_ge (a := 0) (by omega) (by omega)), Lp_67_39 L, ob_t, ob_t, sb, La_81 L h950, ob_t, r.2.2.2.1.2.1.1, M_open hx, ob_t]
        rcases ht x v rfl with c | c
        · rw [if_pos c, if_neg (by decide)]
        · by_cases c14 : x = 14
          · rw [if_pos c14, if_neg (by decide)]
          · rw [if_neg c14, if_pos rfl, ob_t, ob_t, sb, La_81 L h950, ob_t, r.2.2.2.1.2.1.1, M_sth hx, ob_t, if_pos (nI_lt c (by omega))]
    | cons x P ih =>
      intro o N r hP ht hb hl
      have r' : RC B n t b N q o (x :: (P ++ w)) dp te := r
      have L := r.lay
      have hx := hP x List.mem_cons_self
      have h950 : (P ++ w).length < 950 := by rw [List.length_append]; rw [List.length_cons] at hl; omega
      rw [List.length_cons] at hb hl
      have pop : RC B n t b (stI N 67 31 (nI (P ++ w).length)) q o (P ++ w) dp te := by
        obtain ⟨r1, r2, r3, r4, r5, r6⟩ := r'
        have f : Fr (fun k j => k = 67 ∧ j = 31) N (stI N 67 31 (nI (P ++ w).length)) := Fr.rfl'.st ⟨rfl, rfl⟩
        exact ⟨r1.fr f rfl (fun j hj => by omega) (fun i => by omega), (f.at (by omega)).trans r2, ⟨(f.at (by omega)).trans r3.1, lyQ_g o b (fun i _ _ => f.at (by omega)) r3.2⟩, ⟨by rw [mI_st, if_pos ⟨rfl, rfl⟩], stW_g _ (fun i hi => f.at (by omega)) r4.2.1.2, fun y hy => r4.2.2 y (List.mem_cons_of_mem _ hy)⟩, ⟨(f.at (by omega)).trans r5.1, r5.2.1, fun j hj => ⟨(f.at (by omega)).trans (r5.2.2 j hj).1, (r5.2.2 j hj).2⟩⟩, ⟨(f.at (by omega)).trans r6.1, (f.at (by omega)).trans r6.2⟩⟩
      obtain ⟨N1, e1, r1, f1, -⟩ := pop.put1 (y := x) ⟨hx.1, hx.2.1⟩ (by omega) (by omega)
      have nx : ¬ (nI x = 1 ∨ nI x = 2) := by
        rintro (z | z)
        · exact hx.1 ((nI_eq (b := 1) (by omega) (by omega)).mp z)
        · exact hx.2.1 ((nI_eq (b := 2) (by omega) (by omega)).mp z)
      have l1 : lenM [(nI x, (0 : Int32))] = 1 := by show (if nI x = 1 ∨ nI x = 2 then lenM [] + 2 else lenM [] + 1) = 1; rw [if_neg nx]; rfl
      obtain ⟨N2, e2, r2, f2⟩ := ih (o ++ [(nI x, 0)]) N1 r1 (fun y hy => hP y (List.mem_cons_of_mem _ hy)) ht (by rw [lenM_a, l1]; omega) (by omega)
      refine ⟨N2, ?_, ?_, ((Fr.rfl'.st (by unfold XT; omega)).trans f1).trans f2⟩
      · rw [loop_turn (s' := N1), e2]
        unfold F_X9_drops_s0
        have le : (x :: (P ++ w)).length = (P ++ w).length + 1 := List.length_cons
        have sb : nI ((P ++ w).length + 1) - (1 : Int32) = nI (P ++ w).length := nI_sub (a := (P ++ w).length + 1) (b := 1) (by omega)
        rw [Lf_67 L, ob_t, r'.2.2.2.1.1, le, if_neg (show ¬ nI ((P ++ w).length + 1) ≤ 0 from nI_ge (a := 0) (by omega) (by omega)), Lp_67_39 L, ob_t, ob_t, sb, La_81 L h950, ob_t, r'.2.2.2.1.2.1.1, M_open (by omega), ob_t, if_neg (show ¬ x = 14 by omega), if_pos rfl, ob_t, ob_t, sb, La_81 L h950, ob_t, r'.2.2.2.1.2.1.1, M_sth (by omega), ob_t, if_neg (nI_nlt hx.2.2.2 (sth_6 x)), ob_t, sb, Ls_67 L, ob_t, Lp_67_39 L.st, ob_t, Lf_67 L.st, ob_t, mI_st, if_pos ⟨rfl, rfl⟩, La_81 L.st h950, ob_t, mI_st, if_neg (by omega), r'.2.2.2.1.2.1.1, Lc_67 L.st, e1, ob_t]
      · have : o ++ [(nI x, 0)] ++ opL P = o ++ opL (x :: P) := by rw [List.append_assoc]; rfl
        rw [← this]; exact r2
  intro P o N r h1 h2 h3 h4
  obtain ⟨N', e, z⟩ := key P o N r h1 h2 h3 h4
  refine ⟨N', ?_, z⟩
  unfold F_X9_drops
  rw [e, ob_t]
end
