/-! ===== a rule that was read tells a number ===== -/
section
variable {B : Nat → Nat} {n t d L : Nat} {σ : Ps}
theorem runM_c {fc : Nat → Int32} {q : Int32 × Int32} {r : List (Int32 × Int32)} {st : List Int32} : runM fc (q :: r) st = if q.1 = 1 then (if st.length < 950 then runM fc r (q.2 :: st) else none) else if q.1 = 2 then (if st.length < 950 ∧ ¬ q.2 < 0 ∧ q.2.toNatClampNeg < 7 then runM fc r (fc q.2.toNatClampNeg :: st) else none) else if q.1 = 3 then (match st with | t :: u => runM fc r ((if t = 0 then 1 else 0) :: u) | [] => none) else if q.1 = 0 then none else (match st with | b :: a :: u => runM fc r (worksS q.1 a b :: u) | _ => none) := by
  cases st with
  | nil => first | rfl | simp only [runM]
  | cons a s => cases s <;> first | rfl | simp only [runM]
theorem runM_a {fc : Nat → Int32} : ∀ (l l' : List (Int32 × Int32)) (st : List Int32), runM fc (l ++ l') st = (runM fc l st).bind fun r => runM fc l' r
  | [], l', st => rfl
  | q :: l, l', st => by
    rw [List.cons_append, runM_c, runM_c]
    split
    · split
      · exact runM_a l l' _
      · rfl
    · split
      · split
        · exact runM_a l l' _
        · rfl
      · split
        · cases st with
          | nil => rfl
          | cons a r => exact runM_a l l' _
        · split
          · rfl
          · cases st with
            | nil => rfl
            | cons a r =>
              cases r with
              | nil => rfl
              | cons a' r => exact runM_a l l' _
/-- a code that leaves one number, within H places -/
def Bal (H : Nat) (c : List Int32) (f : Ev) : Prop := (∀ x ∈ c, ¬ x < -16) ∧ (∀ fc st, runC fc c st = f fc :: st ∧ ∀ k, k ≤ c.length → (runC fc (c.take k) st).length ≤ st.length + H) ∧ ∀ fc st, st.length + H ≤ 950 → runM fc (c.map toM) st = some (f fc :: st)
theorem Bal.m {H H' : Nat} {c : List Int32} {f : Ev} (h : Bal H c f) (hH : H ≤ H') : Bal H' c f := ⟨h.1, fun fc st => ⟨(h.2.1 fc st).1, fun k hk => Nat.le_trans ((h.2.1 fc st).2 k hk) (by omega)⟩, fun fc st hs => h.2.2 fc st (by omega)⟩
theorem bal_1 {H : Nat} {x : Int32} {f : Ev} (hH : 1 ≤ H) (h1 : ¬ x < -16) (h2 : ∀ fc st, stepC fc st x = f fc :: st) (h3 : ∀ fc st, st.length < 950 → runM fc [toM x] st = some (f fc :: st)) : Bal H [x] f := by
  refine ⟨fun y hy => by rw [List.mem_singleton.mp hy]; exact h1, fun fc st => ⟨h2 fc st, fun k hk => ?_⟩, fun fc st hs => h3 fc st (by omega)⟩
  have hk : k ≤ 1 := hk
  have : k = 0 ∨ k = 1 := by omega
  rcases this with rfl | rfl
  · show st.length ≤ _; omega
  · show (stepC fc st x).length ≤ _
    rw [h2, List.length_cons]; omega
theorem bal_v {H v : Nat} (hH : 1 ≤ H) (hv : v < 2 ^ 31) : Bal H [nI v] (fun _ => nI v) := by
  have h0 : ¬ nI v < 0 := nI_nlt (b := 0) (by omega) (by omega)
  refine bal_1 hH (fun y => h0 (Int32.lt_trans y (by decide))) (fun fc st => ?_) (fun fc st hs => ?_)
  · unfold stepC
    rw [if_neg (fun y => h0 (Int32.lt_trans y (by decide))), if_neg h0]
  · rw [toM_v hv, runM_c, if_pos rfl, if_pos hs]; rfl
theorem fac_t : ∀ f, f < 7 → ¬ (-1 - nI f : Int32) < -16 ∧ ¬ (-1 - nI f : Int32) < -7 ∧ (-1 - nI f : Int32) < 0 ∧ (-1 - (-1 - nI f) : Int32).toNatClampNeg = f ∧ (nI f).toNatClampNeg = f ∧ ¬ nI f < 0 := by decide
theorem bal_f {H v : Nat} (hH : 1 ≤ H) (hv : v < 7) : Bal H [-1 - nI v] (fun fc => fc v) := by
  obtain ⟨a1, a2, a3, a4, a5, a6⟩ := fac_t v hv
  refine bal_1 hH a1 (fun fc st => ?_) (fun fc st hs => ?_)
  · unfold stepC
    rw [if_neg a2, if_pos a3, a4]
  · rw [toM_f v hv, runM_c, if_neg (show ¬ ((2 : Int32), nI v).1 = 1 from (by decide : ¬ (2 : Int32) = 1)), if_pos rfl]
    dsimp only
    rw [a5, if_pos ⟨hs, a6, hv⟩]; rfl
theorem runC_a {fc : Nat → Int32} {l l' : List Int32} {st : List Int32} : runC fc (l ++ l') st = runC fc l' (runC fc l st) := List.foldl_append
theorem take_a {c c' : List Int32} {k : Nat} (h : c.length ≤ k) : (c ++ c').take k = c ++ c'.take (k - c.length) := by
  rw [List.take_append, List.take_of_length_le h]
/-- one code behind another -/
theorem bal_n {H : Nat} {c : List Int32} {f : Ev} (hH : 1 ≤ H) (h : Bal H c f) : Bal H (c ++ [-8]) (fun fc => if f fc = 0 then 1 else 0) := by
  refine ⟨fun y hy => ?_, fun fc st => ⟨?_, fun k hk => ?_⟩, fun fc st hs => ?_⟩
  · rcases List.mem_append.mp hy with hy | hy
    · exact h.1 y hy
    · rw [List.mem_singleton.mp hy]; decide
  · rw [runC_a, (h.2.1 fc st).1]; rfl
  · rw [List.length_append, List.length_singleton] at hk
    by_cases e : k ≤ c.length
    · rw [List.take_append_of_le_length e]; exact (h.2.1 fc st).2 k e
    · rw [List.take_of_length_le (by rw [List.length_append, List.length_singleton]; omega), runC_a, (h.2.1 fc st).1]
      show ((if f fc = 0 then (1 : Int32) else 0) :: st).length ≤ _
      rw [List.length_cons]; omega
  · rw [List.map_append, runM_a, h.2.2 fc st hs]
    show runM fc [toM (-8)] (f fc :: st) = _
    rw [show toM (-8) = ((3 : Int32), (0 : Int32)) from by decide, runM_c, if_neg (by decide), if_neg (by decide), if_pos rfl]; rfl
theorem bal_r {H : Nat} (hH : 1 ≤ H) : ∀ (m : Nat) (c : List Int32) (f : Ev), Bal H c f → ∃ f', Bal H (c ++ List.replicate m (-8)) f'
  | 0, c, f, h => ⟨f, by rw [List.replicate_zero, List.append_nil]; exact h⟩
  | m + 1, c, f, h => by
    obtain ⟨f', h'⟩ := bal_r hH m (c ++ [-8]) _ (bal_n hH h)
    refine ⟨f', ?_⟩
    have : c ++ List.replicate (m + 1) (-8 : Int32) = c ++ [-8] ++ List.replicate m (-8) := by rw [List.append_assoc]; rfl
    rw [this]; exact h'
theorem jn_t : ∀ L, L < 5 → ∀ c, c < 100 → jnI L c = 0 ∨ (jnI L c = -9 ∨ jnI L c = -10 ∨ jnI L c = -11 ∨ jnI L c = -12 ∨ jnI L c = -13 ∨ jnI L c = -14 ∨ jnI L c = -15 ∨ jnI L c = -16) := by decide
theorem join_w {s : Int32} (hs : s = -9 ∨ s = -10 ∨ s = -11 ∨ s = -12 ∨ s = -13 ∨ s = -14 ∨ s = -15 ∨ s = -16) : ¬ s < -16 ∧ s < -7 ∧ s ≠ -8 ∧ opM s ≠ 1 ∧ opM s ≠ 2 ∧ opM s ≠ 3 ∧ opM s ≠ 0 ∧ ∀ a b, worksS (opM s) a b = joinS s a b := by
  rcases hs with rfl | rfl | rfl | rfl | rfl | rfl | rfl | rfl
  all_goals exact ⟨by decide, by decide, by decide, by decide, by decide, by decide, by decide, fun a b => rfl⟩
theorem bal_j {H H1 H2 : Nat} {c1 c2 : List Int32} {f1 f2 : Ev} {s : Int32} (hs : s = -9 ∨ s = -10 ∨ s = -11 ∨ s = -12 ∨ s = -13 ∨ s = -14 ∨ s = -15 ∨ s = -16) (a : Bal H1 c1 f1) (b : Bal H2 c2 f2) (h1 : H1 ≤ H) (h2 : H2 + 1 ≤ H) : Bal H (c1 ++ c2 ++ [s]) (fun fc => joinS s (f1 fc) (f2 fc)) := by
  obtain ⟨s1, s2, s3, s4, s5, s6, s7, s8⟩ := join_w hs
  have st2 : ∀ fc st, stepC fc (f2 fc :: f1 fc :: st) s = joinS s (f1 fc) (f2 fc) :: st := fun fc st => by
    unfold stepC
    rw [if_pos s2, if_neg s3]
  refine ⟨fun y hy => ?_, fun fc st => ⟨?_, fun k hk => ?_⟩, fun fc st hst => ?_⟩
  · rcases List.mem_append.mp hy with hy | hy
    · rcases List.mem_append.mp hy with hy | hy
      · exact a.1 y hy
      · exact b.1 y hy
    · rw [List.mem_singleton.mp hy]; exact s1
  · rw [runC_a, runC_a, (a.2.1 fc st).1, (b.2.1 fc _).1]; exact st2 fc st
  · rw [List.length_append, List.length_append, List.length_singleton] at hk
    by_cases e : k ≤ (c1 ++ c2).length
    · rw [List.take_append_of_le_length e]
      by_cases e1 : k ≤ c1.length
      · rw [List.take_append_of_le_length e1]
        exact Nat.le_trans ((a.2.1 fc st).2 k e1) (by omega)
      · rw [take_a (by omega), runC_a, (a.2.1 fc st).1]
        have := (b.2.1 fc (f1 fc :: st)).2 (k - c1.length) (by rw [List.length_append] at e; omega)
        rw [List.length_cons] at this; omega
    · rw [List.length_append] at e
      rw [List.take_of_length_le (by rw [List.length_append, List.length_append, List.length_singleton]; omega), runC_a, runC_a, (a.2.1 fc st).1, (b.2.1 fc _).1]
      show (stepC fc (f2 fc :: f1 fc :: st) s).length ≤ _
      rw [st2, List.length_cons]; omega
  · rw [List.map_append, List.map_append, runM_a, runM_a, a.2.2 fc st (by omega)]
    show (runM fc (c2.map toM) (f1 fc :: st)).bind _ = _
    rw [b.2.2 fc (f1 fc :: st) (by rw [List.length_cons]; omega)]
    show runM fc [toM s] (f2 fc :: f1 fc :: st) = _
    rw [show toM s = (opM s, 0) from if_pos s2, runM_c, if_neg s4, if_neg s5, if_neg s6, if_neg s7]
    show some (worksS (opM s) (f1 fc) (f2 fc) :: st) = _
    rw [s8]
def HH (d L : Nat) : Nat := 5 * (5 - d) + (5 - L) + 1
theorem B_jl {R : Nat → Nat → Ps → Ps} (hd : d ≤ 5) (hL : L ≤ 4) (hq : ∀ σ : Ps, σ.2.1 ≤ n → PB n σ (R d (L + 1) σ)) (hB : ∀ i, i < n → B i < 256) (hR : ∀ σ : Ps, σ.2.1 ≤ n → σ.2.2.1 = 0 → (R d (L + 1) σ).2.2.1 = 0 → ∃ c f, (R d (L + 1) σ).1 = σ.1 ++ c ∧ Bal (HH d (L + 1)) c f) : ∀ (m : Nat) (σ : Ps) (l0 c0 : List Int32) (f0 : Ev), σ.2.1 ≤ n → σ.1 = l0 ++ c0 → Bal (HH d L) c0 f0 → (jlP B n R d L m σ).2.2.1 = 0 → ∃ c f, (jlP B n R d L m σ).1 = l0 ++ c ∧ Bal (HH d L) c f := by
  intro m
  induction m with
  | zero => intro σ l0 c0 f0 _ h1 h2 _; exact ⟨c0, f0, h1, h2⟩
  | succ m ih =>
    intro σ l0 c0 f0 hn h1 h2 hk
    rw [jlP.eq_2] at hk ⊢
    by_cases c : σ.2.2.1 = 0 ∧ jnI L (cdT B n σ.2.1) ≠ 0
    · rw [if_pos c] at hk ⊢
      have cj := jn_c hL c.2
      have c0' : cdT B n σ.2.1 ≠ 0 := fun y => c.2 (by rw [y]; exact jn_0)
      have ce := cd_en hn c0'
      by_cases z : (R d (L + 1) (advP B n σ)).2.2.1 = 0
      · obtain ⟨c1, f1, e1, b1⟩ := hR (advP B n σ) ce.2.1 c.1 z
        have js := (jn_t L (by omega) _ cj.1).resolve_left c.2
        have bq := hq (advP B n σ) ce.2.1
        refine ih _ l0 (c0 ++ c1 ++ [jnI L (cdT B n σ.2.1)]) _ bq.2.1 ?_ (bal_j (H := HH d L) js h2 b1 (Nat.le_refl _) (by unfold HH; omega)) hk
        show (R d (L + 1) (advP B n σ)).1 ++ [jnI L (cdT B n σ.2.1)] = _
        rw [e1]
        show σ.1 ++ c1 ++ [jnI L (cdT B n σ.2.1)] = _
        rw [h1]; simp only [List.append_assoc]
      · rw [jl_k m _ (show (emiP (jnI L (cdT B n σ.2.1)) (R d (L + 1) (advP B n σ))).2.2.1 ≠ 0 from z)] at hk
        exact absurd hk z
    · rw [if_neg c] at hk ⊢
      exact ⟨c0, f0, h1, h2⟩
theorem B_sim (ht : t ≤ 1) (hB : ∀ i, i < n → B i < 256) : ∀ f d L, ((d ≤ 5 ∧ L ≤ 5) ∨ (d = 6 ∧ L = 0)) → 37 ≤ 6 * d + L + f → ∀ σ : Ps, σ.2.1 ≤ n → σ.2.2.1 = 0 → (pjP B n t f d L σ).2.2.1 = 0 → ∃ c g, (pjP B n t f d L σ).1 = σ.1 ++ c ∧ Bal (HH d L) c g := by
  intro f
  induction f with
  | zero => intro d L h1 h2; omega
  | succ f ih =>
    intro d L h1 h2 σ hq hk hz
    have fk : ∀ w (σ : Ps), σ.2.2.1 = 0 → w ≠ 0 → (failP B n w σ).2.2.1 ≠ 0 := fun w σ h hw => by unfold failP; rw [if_pos h]; exact hw
    rw [pjP.eq_2] at hz ⊢
    unfold tjP at hz ⊢
    by_cases d5 : 5 < d
    · rw [if_pos d5] at hz
      split at hz
      · exact absurd hz (fk 2 σ hk (by omega))
      · exact absurd hz (fk 1 σ hk (by omega))
    rw [if_neg d5] at hz ⊢
    by_cases L4 : 4 < L
    · rw [if_pos L4] at hz ⊢
      have l5 : L = 5 := by omega
      subst l5
      unfold ptP at hz ⊢
      by_cases c1 : fcN t (cdT B n σ.2.1) ≠ 7
      · rw [if_pos c1]
        have f8 := fc_8 (t := t) (c := cdT B n σ.2.1)
        exact ⟨_, _, rfl, bal_f (by unfold HH; omega) (by omega)⟩
      rw [if_neg c1] at hz ⊢
      by_cases c2 : 1 ≤ cdT B n σ.2.1 ∧ cdT B n σ.2.1 ≤ 16
      · rw [if_pos c2] at hz; exact absurd hz (fk 3 σ hk (by omega))
      rw [if_neg c2] at hz ⊢
      by_cases c3 : cdT B n σ.2.1 = 17
      · rw [if_pos c3] at hz; exact absurd hz (fk 2 σ hk (by omega))
      rw [if_neg c3] at hz ⊢
      by_cases c4 : 1000 ≤ cdT B n σ.2.1
      · rw [if_pos c4]
        have := cd_le hq hB
        exact ⟨_, _, rfl, bal_v (by unfold HH; omega) (by omega)⟩
      rw [if_neg c4] at hz ⊢
      by_cases c5 : cdT B n σ.2.1 = 60
      · rw [if_pos c5] at hz ⊢
        by_cases z : (pjP B n t f (d + 1) 0 (advP B n σ)).2.2.1 = 0
        · by_cases y : cdT B n (pjP B n t f (d + 1) 0 (advP B n σ)).2.1 = 61
          · rw [if_pos ⟨z, y⟩]
            obtain ⟨c, g, e1, b1⟩ := ih (d + 1) 0 (by omega) (by omega) (advP B n σ) (en_le hq).2 hk z
            refine ⟨c, g, e1, b1.m ?_⟩
            by_cases d4 : d = 5
            · exfalso
              cases f with
              | zero => omega
              | succ f =>
                rw [pjP.eq_2] at z
                unfold tjP at z
                rw [if_pos (by omega)] at z
                split at z
                · exact absurd z (fk 2 _ hk (by omega))
                · exact absurd z (fk 1 _ hk (by omega))
            · unfold HH; omega
          · rw [if_neg (fun x => y x.2)] at hz
            exact absurd hz (fk 1 _ z (by omega))
        · rw [if_neg (fun x => z x.1), fa_fail z] at hz
          exact absurd hz z
      · rw [if_neg c5] at hz; exact absurd hz (fk 1 σ hk (by omega))
    rw [if_neg L4] at hz ⊢
    have bq : ∀ σ : Ps, σ.2.1 ≤ n → PB n σ (pjP B n t f d (L + 1) σ) := fun σ h => pj_b f d (L + 1) σ h
    have hR := ih d (L + 1) (by omega) (by omega)
    have hm : HH d (L + 1) ≤ HH d L := by unfold HH; omega
    by_cases L2 : L = 2
    · subst L2
      rw [if_pos rfl] at hz ⊢
      obtain ⟨z1, z2, z3, z4⟩ := ntQ_b (B := B) hq
      have hz' : (jlP B n (pjP B n t f) d 2 1 (pjP B n t f d (2 + 1) (ntQ B n σ).2)).2.2.1 = 0 := hz
      have k1 : (ntQ B n σ).2.2.2.1 = 0 := Classical.byContradiction fun y => by
        have pk := pj_k (B := B) (t := t) f d (2 + 1) (ntQ B n σ).2 z3 y
        have kk : (pjP B n t f d (2 + 1) (ntQ B n σ).2).2.2.1 ≠ 0 := by rw [pk]; exact y
        rw [jl_k 1 _ kk] at hz'
        exact kk hz'
      have k2 : (pjP B n t f d (2 + 1) (ntQ B n σ).2).2.2.1 = 0 := Classical.byContradiction fun y => by
        rw [jl_k 1 _ y] at hz'
        exact y hz'
      obtain ⟨c, g, e1, b1⟩ := hR (ntQ B n σ).2 z3 k1 k2
      rw [z1] at e1
      obtain ⟨c', g', e2, b2⟩ := B_jl (by omega) (by omega) bq hB hR 1 _ σ.1 c g (bq _ z3).2.1 e1 (b1.m hm) hz'
      obtain ⟨g3, b3⟩ := bal_r (by unfold HH; omega) (ntQ B n σ).1 c' g' b2
      refine ⟨_, g3, ?_, b3⟩
      show (jlP B n (pjP B n t f) d 2 1 (pjP B n t f d (2 + 1) (ntQ B n σ).2)).1 ++ List.replicate (ntQ B n σ).1 (-8) = _
      rw [e2, List.append_assoc]
    · rw [if_neg L2] at hz ⊢
      have k2 : (pjP B n t f d (L + 1) σ).2.2.1 = 0 := Classical.byContradiction fun y => by
        rw [jl_k 700 _ y] at hz
        exact y hz
      obtain ⟨c, g, e1, b1⟩ := hR σ hq hk k2
      exact B_jl (by omega) (by omega) bq hB hR 700 _ σ.1 c g (bq _ hq).2.1 e1 (b1.m hm) hz
theorem Bal.den {c : List Int32} {f : Ev} (h : Bal (HH 0 0) c f) : DenC c f ∧ ∀ fc, runM fc (c.map toM) [] = some [f fc] :=
  ⟨⟨h.1, fun fc => ⟨(h.2.1 fc []).1, fun k hk => by have := (h.2.1 fc []).2 k hk; unfold HH at this; rw [List.length_nil] at this; omega⟩⟩, fun fc => h.2.2 fc [] (by unfold HH; rw [List.length_nil]; omega)⟩
end
