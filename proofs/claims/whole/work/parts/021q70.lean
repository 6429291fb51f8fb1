/-! ===== a rule is read: what is read, as the class goes ===== -/
section
variable {B : Nat → Nat} {n t : Nat}
/-- what is told so far, where the token begins, the fault, its place -/
abbrev Ps : Type := List Int32 × Nat × Nat × Nat
noncomputable def advP (B : Nat → Nat) (n : Nat) (σ : Ps) : Ps := (σ.1, enT B n σ.2.1, σ.2.2)
noncomputable def failP (B : Nat → Nat) (n w : Nat) (σ : Ps) : Ps := if σ.2.2.1 = 0 then (σ.1, σ.2.1, w, plT B n σ.2.1) else σ
def emiP (x : Int32) (σ : Ps) : Ps := (σ.1 ++ [x], σ.2)
def emN (m : Nat) (σ : Ps) : Ps := (σ.1 ++ List.replicate m (-8), σ.2)
def jnI (L c : Nat) : Int32 := if L = 0 then (if c = 13 then -10 else 0) else if L = 1 then (if c = 14 then -9 else 0) else if L = 2 then (if c = 80 then -15 else if c = 81 then -16 else 0) else if L = 3 then (if c = 63 then -11 else if c = 65 then -12 else 0) else (if c = 62 then -13 else if c = 67 then -14 else 0)
theorem jn_0 {L : Nat} : jnI L 0 = 0 := by unfold jnI; simp
def fcN (t c : Nat) : Nat := if c = 6 then 0 else if c = 7 then 1 else if c = 8 then 2 else if c = 9 then 3 else if c = 4 then 4 else if c = 10 then 5 else if c = 11 ∧ t = 1 then 6 else 7
noncomputable def ntP (B : Nat → Nat) (n : Nat) : Nat → Ps → Nat × Ps
  | 0, σ => (0, σ)
  | m + 1, σ => if cdT B n σ.2.1 = 12 then ((ntP B n m (advP B n σ)).1 + 1, (ntP B n m (advP B n σ)).2) else (0, σ)
noncomputable def ntQ (B : Nat → Nat) (n : Nat) (σ : Ps) : Nat × Ps := if (ntP B n 6 σ).1 = 6 ∧ cdT B n (ntP B n 6 σ).2.2.1 = 12 then ((ntP B n 6 σ).1, failP B n 2 (ntP B n 6 σ).2) else ntP B n 6 σ
noncomputable def jlP (B : Nat → Nat) (n : Nat) (R : Nat → Nat → Ps → Ps) (d L : Nat) : Nat → Ps → Ps
  | 0, σ => σ
  | m + 1, σ => if σ.2.2.1 = 0 ∧ jnI L (cdT B n σ.2.1) ≠ 0 then jlP B n R d L m (emiP (jnI L (cdT B n σ.2.1)) (R d (L + 1) (advP B n σ))) else σ
noncomputable def ptP (B : Nat → Nat) (n t : Nat) (R : Nat → Nat → Ps → Ps) (d : Nat) (σ : Ps) : Ps :=
  if fcN t (cdT B n σ.2.1) ≠ 7 then advP B n (emiP (-1 - nI (fcN t (cdT B n σ.2.1))) σ)
  else if 1 ≤ cdT B n σ.2.1 ∧ cdT B n σ.2.1 ≤ 16 then failP B n 3 σ
  else if cdT B n σ.2.1 = 17 then failP B n 2 σ
  else if 1000 ≤ cdT B n σ.2.1 then advP B n (emiP (nI (cdT B n σ.2.1 - 1000)) σ)
  else if cdT B n σ.2.1 = 60 then (if (R (d + 1) 0 (advP B n σ)).2.2.1 = 0 ∧ cdT B n (R (d + 1) 0 (advP B n σ)).2.1 = 61 then advP B n (R (d + 1) 0 (advP B n σ)) else failP B n 1 (R (d + 1) 0 (advP B n σ)))
  else failP B n 1 σ
noncomputable def tjP (B : Nat → Nat) (n t : Nat) (R : Nat → Nat → Ps → Ps) (d L : Nat) (σ : Ps) : Ps :=
  if 5 < d then (if 1000 ≤ cdT B n σ.2.1 ∨ (1 ≤ cdT B n σ.2.1 ∧ cdT B n σ.2.1 ≤ 17) ∨ cdT B n σ.2.1 = 60 then failP B n 2 σ else failP B n 1 σ)
  else if 4 < L then ptP B n t R d σ
  else if L = 2 then emN (ntQ B n σ).1 (jlP B n R d L 1 (R d (L + 1) (ntQ B n σ).2))
  else jlP B n R d L 700 (R d (L + 1) σ)
noncomputable def pjP (B : Nat → Nat) (n t : Nat) : Nat → Nat → Nat → Ps → Ps
  | 0, _, _, σ => σ
  | f + 1, d, L, σ => tjP B n t (pjP B n t f) d L σ
/-- no more is told than is read -/
def PB (n : Nat) (σ σ' : Ps) : Prop := σ.2.1 ≤ σ'.2.1 ∧ σ'.2.1 ≤ n ∧ σ'.1.length + σ.2.1 ≤ σ.1.length + σ'.2.1
theorem PB.trans {a b c : Ps} (h : PB n a b) (h' : PB n b c) : PB n a c := ⟨Nat.le_trans h.1 h'.1, h'.2.1, by have := h.2.2; have := h'.2.2; omega⟩
theorem PB.rfl' {σ : Ps} (h : σ.2.1 ≤ n) : PB n σ σ := ⟨Nat.le_refl _, h, Nat.le_refl _⟩
theorem PB.fail {σ σ' : Ps} {w : Nat} (h : PB n σ σ') : PB n σ (failP B n w σ') := by
  unfold failP; split
  · exact h
  · exact h
theorem PB.adv {σ σ' : Ps} (h : PB n σ σ') : PB n σ (advP B n σ') := by
  have := pl_le (B := B) h.2.1
  have := en_le (B := B) h.2.1
  obtain ⟨a, b, c⟩ := h
  refine ⟨?_, ?_, ?_⟩
  · show σ.2.1 ≤ enT B n σ'.2.1; omega
  · show enT B n σ'.2.1 ≤ n; omega
  · show σ'.1.length + σ.2.1 ≤ σ.1.length + enT B n σ'.2.1; omega
theorem PB.adv1 {σ σ' : Ps} (h : PB n σ σ') (hc : cdT B n σ'.2.1 ≠ 0) : (advP B n σ').1.length + σ.2.1 + 1 ≤ σ.1.length + (advP B n σ').2.1 ∧ PB n σ (advP B n σ') := by
  have := cd_en h.2.1 hc
  refine ⟨?_, h.adv⟩
  have := h.2.2
  show σ'.1.length + σ.2.1 + 1 ≤ σ.1.length + enT B n σ'.2.1; omega
theorem PB.emi {σ σ' : Ps} {x : Int32} (h : PB n σ σ') (h' : σ'.1.length + σ.2.1 + 1 ≤ σ.1.length + σ'.2.1) : PB n σ (emiP x σ') := ⟨h.1, h.2.1, by
  show (σ'.1 ++ [x]).length + σ.2.1 ≤ σ.1.length + σ'.2.1
  rw [List.length_append, List.length_singleton]; omega⟩
theorem nt_b : ∀ m (σ : Ps), σ.2.1 ≤ n → (ntP B n m σ).2.1 = σ.1 ∧ (ntP B n m σ).2.2.2 = σ.2.2 ∧ σ.2.1 + (ntP B n m σ).1 ≤ (ntP B n m σ).2.2.1 ∧ (ntP B n m σ).2.2.1 ≤ n ∧ (ntP B n m σ).1 ≤ m := by
  intro m
  induction m with
  | zero => intro σ h; exact ⟨rfl, rfl, Nat.le_refl _, h, Nat.le_refl _⟩
  | succ m ih =>
    intro σ h
    rw [ntP.eq_2]
    by_cases c : cdT B n σ.2.1 = 12
    · rw [if_pos c]
      have e := cd_en h (by omega : cdT B n σ.2.1 ≠ 0)
      obtain ⟨a1, a2, a3, a4, a5⟩ := ih (advP B n σ) e.2.1
      have a3' : enT B n σ.2.1 + (ntP B n m (advP B n σ)).1 ≤ (ntP B n m (advP B n σ)).2.2.1 := a3
      exact ⟨a1, a2, by dsimp only; omega, a4, by dsimp only; omega⟩
    · rw [if_neg c]; exact ⟨rfl, rfl, Nat.le_refl _, h, by dsimp only; omega⟩
theorem ntQ_b {σ : Ps} (h : σ.2.1 ≤ n) : (ntQ B n σ).2.1 = σ.1 ∧ σ.2.1 + (ntQ B n σ).1 ≤ (ntQ B n σ).2.2.1 ∧ (ntQ B n σ).2.2.1 ≤ n ∧ (ntQ B n σ).1 ≤ 6 := by
  obtain ⟨a1, a2, a3, a4, a5⟩ := nt_b (B := B) 6 σ h
  unfold ntQ
  split
  · unfold failP
    split
    · exact ⟨a1, a3, a4, a5⟩
    · exact ⟨a1, a3, a4, a5⟩
  · exact ⟨a1, a3, a4, a5⟩
theorem jl_b {R : Nat → Nat → Ps → Ps} {d L : Nat} (hR : ∀ d L σ, σ.2.1 ≤ n → PB n σ (R d L σ)) : ∀ m (σ : Ps), σ.2.1 ≤ n → PB n σ (jlP B n R d L m σ) := by
  intro m
  induction m with
  | zero => intro σ h; exact PB.rfl' h
  | succ m ih =>
    intro σ h
    rw [jlP.eq_2]
    by_cases c : σ.2.2.1 = 0 ∧ jnI L (cdT B n σ.2.1) ≠ 0
    · rw [if_pos c]
      have c0 : cdT B n σ.2.1 ≠ 0 := fun y => c.2 (by rw [y]; exact jn_0)
      obtain ⟨a1, a2⟩ := (PB.rfl' (n := n) h).adv1 (B := B) c0
      have a3 := hR d (L + 1) _ a2.2.1
      have a4 : PB n σ (emiP (jnI L (cdT B n σ.2.1)) (R d (L + 1) (advP B n σ))) := (a2.trans a3).emi (by have := a3.2.2; omega)
      exact a4.trans (ih _ a4.2.1)
    · rw [if_neg c]; exact PB.rfl' h
theorem fc_0 {c : Nat} (h : fcN t c ≠ 7) : c ≠ 0 := fun y => h (by rw [y]; unfold fcN; simp)
theorem fc_8 {c : Nat} : fcN t c < 8 := by
  unfold fcN
  repeat' split
  all_goals omega
theorem fc_w {c : Nat} (h : ¬ (1 ≤ c ∧ c ≤ 16)) : fcN t c = 7 := by
  unfold fcN
  repeat' split
  all_goals first | rfl | omega
theorem pt_b {R : Nat → Nat → Ps → Ps} {d : Nat} (hR : ∀ d L σ, σ.2.1 ≤ n → PB n σ (R d L σ)) {σ : Ps} (h : σ.2.1 ≤ n) : PB n σ (ptP B n t R d σ) := by
  have r := PB.rfl' (n := n) h
  have v : ∀ x, cdT B n σ.2.1 ≠ 0 → PB n σ (advP B n (emiP x σ)) := fun x c0 => by
    obtain ⟨a1, a2⟩ := r.adv1 (B := B) c0
    exact a2.emi (x := x) a1
  unfold ptP
  by_cases c1 : fcN t (cdT B n σ.2.1) ≠ 7
  · rw [if_pos c1]; exact v _ (fc_0 c1)
  rw [if_neg c1]
  by_cases c2 : 1 ≤ cdT B n σ.2.1 ∧ cdT B n σ.2.1 ≤ 16
  · rw [if_pos c2]; exact r.fail
  rw [if_neg c2]
  by_cases c3 : cdT B n σ.2.1 = 17
  · rw [if_pos c3]; exact r.fail
  rw [if_neg c3]
  by_cases c4 : 1000 ≤ cdT B n σ.2.1
  · rw [if_pos c4]; exact v _ (by omega)
  rw [if_neg c4]
  by_cases c5 : cdT B n σ.2.1 = 60
  · rw [if_pos c5]
    have a3 := r.adv.trans (hR (d + 1) 0 (advP B n σ) (r.adv (B := B)).2.1)
    split
    · exact a3.adv
    · exact a3.fail
  · rw [if_neg c5]; exact r.fail
theorem pj_b : ∀ f d L (σ : Ps), σ.2.1 ≤ n → PB n σ (pjP B n t f d L σ) := by
  intro f
  induction f with
  | zero => intro d L σ h; exact PB.rfl' h
  | succ f ih =>
    intro d L σ h
    rw [pjP.eq_2]
    have r := PB.rfl' (n := n) h
    unfold tjP
    by_cases c1 : 5 < d
    · rw [if_pos c1]; split
      · exact r.fail
      · exact r.fail
    rw [if_neg c1]
    by_cases c2 : 4 < L
    · rw [if_pos c2]; exact pt_b ih h
    rw [if_neg c2]
    by_cases c3 : L = 2
    · rw [if_pos c3]
      obtain ⟨a1, a2, a3, a4⟩ := ntQ_b (B := B) h
      have b1 := ih d (L + 1) (ntQ B n σ).2 a3
      have b2 := b1.trans (jl_b (B := B) (d := d) (L := L) ih 1 _ b1.2.1)
      have d1 := b2.1
      refine ⟨?_, b2.2.1, ?_⟩
      · show σ.2.1 ≤ (jlP B n (pjP B n t f) d L 1 (pjP B n t f d (L + 1) (ntQ B n σ).2)).2.1
        omega
      show ((jlP B n (pjP B n t f) d L 1 (pjP B n t f d (L + 1) (ntQ B n σ).2)).1 ++ List.replicate (ntQ B n σ).1 (-8)).length + σ.2.1 ≤ σ.1.length + (jlP B n (pjP B n t f) d L 1 (pjP B n t f d (L + 1) (ntQ B n σ).2)).2.1
      rw [List.length_append, List.length_replicate]
      have := b2.2.2
      rw [a1] at this
      omega
    · rw [if_neg c3]
      have b1 := ih d (L + 1) σ h
      exact b1.trans (jl_b (B := B) (d := d) (L := L) ih 700 _ b1.2.1)
-- a fault stays
theorem fa_fail {σ : Ps} {w : Nat} (h : σ.2.2.1 ≠ 0) : failP B n w σ = σ := by unfold failP; rw [if_neg h]
theorem jl_k {R : Nat → Nat → Ps → Ps} {d L : Nat} : ∀ m (σ : Ps), σ.2.2.1 ≠ 0 → jlP B n R d L m σ = σ := by
  intro m σ h
  cases m with
  | zero => rfl
  | succ m => rw [jlP.eq_2, if_neg (fun y => h y.1)]
theorem pj_k : ∀ f d L (σ : Ps), σ.2.1 ≤ n → σ.2.2.1 ≠ 0 → (pjP B n t f d L σ).2.2 = σ.2.2 := by
  intro f
  induction f with
  | zero => intro d L σ _ h; rfl
  | succ f ih =>
    intro d L σ hq h
    rw [pjP.eq_2]
    unfold tjP
    by_cases c1 : 5 < d
    · rw [if_pos c1, fa_fail h, fa_fail h]; split <;> rfl
    rw [if_neg c1]
    by_cases c2 : 4 < L
    · rw [if_pos c2]
      unfold ptP
      rw [fa_fail h, fa_fail h, fa_fail h]
      have ad : (advP B n σ).2.1 ≤ n := (en_le hq).2
      have r := ih (d + 1) 0 (advP B n σ) ad h
      have rk : (pjP B n t f (d + 1) 0 (advP B n σ)).2.2.1 ≠ 0 := by rw [r]; exact h
      rw [if_neg (fun y : (pjP B n t f (d + 1) 0 (advP B n σ)).2.2.1 = 0 ∧ _ => rk y.1), fa_fail rk]
      repeat' split
      all_goals first | rfl | exact r
    rw [if_neg c2]
    by_cases c3 : L = 2
    · rw [if_pos c3]
      obtain ⟨a1, a2, a3, a4, a5⟩ := nt_b (B := B) 6 σ hq
      have nk : (ntQ B n σ).2.2.2 = σ.2.2 := by
        unfold ntQ
        split
        · unfold failP
          rw [if_neg (by rw [a2]; exact h)]; exact a2
        · exact a2
      have r := ih d (L + 1) (ntQ B n σ).2 (ntQ_b hq).2.2.1 (by rw [nk]; exact h)
      rw [jl_k 1 _ (by rw [r, nk]; exact h)]
      show (pjP B n t f d (L + 1) (ntQ B n σ).2).2.2 = _
      rw [r, nk]
    · rw [if_neg c3]
      have r := ih d (L + 1) σ hq h
      rw [jl_k 700 _ (by rw [r]; exact h), r]
-- what was told stays
theorem jl_l {R : Nat → Nat → Ps → Ps} {d L : Nat} (hR : ∀ d L σ, ∃ c, (R d L σ).1 = σ.1 ++ c) : ∀ m (σ : Ps), ∃ c, (jlP B n R d L m σ).1 = σ.1 ++ c := by
  intro m
  induction m with
  | zero => intro σ; exact ⟨[], by rw [List.append_nil]; rfl⟩
  | succ m ih =>
    intro σ
    rw [jlP.eq_2]
    split
    · obtain ⟨c1, h1⟩ := hR d (L + 1) (advP B n σ)
      obtain ⟨c2, h2⟩ := ih (emiP (jnI L (cdT B n σ.2.1)) (R d (L + 1) (advP B n σ)))
      refine ⟨c1 ++ [jnI L (cdT B n σ.2.1)] ++ c2, ?_⟩
      rw [h2]
      show (R d (L + 1) (advP B n σ)).1 ++ [_] ++ c2 = _
      rw [h1]
      show σ.1 ++ c1 ++ [_] ++ c2 = _
      simp only [List.append_assoc]
    · exact ⟨[], by rw [List.append_nil]⟩
theorem fl_l {σ : Ps} {w : Nat} : (failP B n w σ).1 = σ.1 := by unfold failP; split <;> rfl
theorem pj_l : ∀ f d L (σ : Ps), ∃ c, (pjP B n t f d L σ).1 = σ.1 ++ c := by
  intro f
  induction f with
  | zero => intro d L σ; exact ⟨[], by rw [List.append_nil]; rfl⟩
  | succ f ih =>
    intro d L σ
    rw [pjP.eq_2]
    have nil : ∀ {σ' : Ps}, σ'.1 = σ.1 → ∃ c, σ'.1 = σ.1 ++ c := fun h => ⟨[], by rw [List.append_nil]; exact h⟩
    unfold tjP
    by_cases c1 : 5 < d
    · rw [if_pos c1]; split
      · exact nil fl_l
      · exact nil fl_l
    rw [if_neg c1]
    by_cases c2 : 4 < L
    · rw [if_pos c2]
      unfold ptP
      split
      · exact ⟨_, rfl⟩
      · split
        · exact nil fl_l
        · split
          · exact nil fl_l
          · split
            · exact ⟨_, rfl⟩
            · split
              · obtain ⟨c, h⟩ := ih (d + 1) 0 (advP B n σ)
                split
                · exact ⟨c, h⟩
                · exact ⟨c, by rw [fl_l]; exact h⟩
              · exact nil fl_l
    rw [if_neg c2]
    by_cases c3 : L = 2
    · rw [if_pos c3]
      obtain ⟨c, h⟩ := ih d (L + 1) (ntQ B n σ).2
      obtain ⟨c', h'⟩ := jl_l (B := B) (n := n) (d := d) (L := L) ih 1 (pjP B n t f d (L + 1) (ntQ B n σ).2)
      have q1 : ∀ m (σ : Ps), (ntP B n m σ).2.1 = σ.1 := by
        intro m
        induction m with
        | zero => intro σ; rfl
        | succ m ihm =>
          intro σ
          rw [ntP.eq_2]
          split
          · exact ihm (advP B n σ)
          · rfl
      have q2 : (ntQ B n σ).2.1 = σ.1 := by
        unfold ntQ
        split
        · exact fl_l.trans (q1 6 σ)
        · exact q1 6 σ
      refine ⟨c ++ c' ++ List.replicate (ntQ B n σ).1 (-8), ?_⟩
      show (jlP B n _ d L 1 _).1 ++ _ = _
      rw [h', h, q2]
      simp only [List.append_assoc]
    · rw [if_neg c3]
      obtain ⟨c, h⟩ := ih d (L + 1) σ
      obtain ⟨c', h'⟩ := jl_l (B := B) (n := n) (d := d) (L := L) ih 700 (pjP B n t f d (L + 1) σ)
      exact ⟨c ++ c', by rw [h', h, List.append_assoc]⟩
end
