/-! ===== what is seen, and who could be how large ===== -/
section
variable {M M' : Mem} {p u h n : Nat} {g : Pg} {s s' a b c : Sg} {D : Int} {E : List Se} {v : Int32}
theorem LcS.symm (l : LcS g h a b) : LcS g h b a := ⟨l.1.symm, l.2.1.symm, l.2.2.1.symm, l.2.2.2.1.symm, l.2.2.2.2.1.symm, l.2.2.2.2.2.1.symm, fun u hu z => (l.2.2.2.2.2.2 u hu (l.2.2.2.2.2.1.trans z)).symm⟩
theorem LcS.trans (l : LcS g h a b) (m : LcS g h b c) : LcS g h a c := ⟨l.1.trans m.1, l.2.1.trans m.2.1, l.2.2.1.trans m.2.2.1, l.2.2.2.1.trans m.2.2.2.1, l.2.2.2.2.1.trans m.2.2.2.2.1, l.2.2.2.2.2.1.trans m.2.2.2.2.2.1, fun u hu z => (l.2.2.2.2.2.2 u hu z).trans (m.2.2.2.2.2.2 u hu (l.2.2.2.2.2.1.symm.trans z))⟩
theorem LcS.pass {D' : Int} (l : LcS g h a b) (hg : GdP g) (ha : GdS D g a) (hb : GdS D' g b) (hh : h < gH g) : LcS g h (passS g a) (passS g b) := by
  have e : LcS g h (passS g b) (aloneS g b h (dampS g b)) := (LcS.refl (s := b)).day hg hb hh
  have f : LcS g h (passS g a) (aloneS g b h (dampS g a)) := l.day hg ha hh
  rw [l.damp] at f
  exact f.trans e.symm
theorem LcS.passN {D' : Int} (l : LcS g h a b) (hg : GdP g) (ha : GdS D g a) (hb : GdS D' g b) (hh : h < gH g) (hD : D < 50000) (hD' : D' < 50000) : ∀ n, n < 50000 → LcS g h (passN g n a) (passN g n b) := by
  intro n
  induction n with
  | zero => intro _; exact l
  | succ n ih => intro hn; exact (ih (by omega)).pass hg (ha.passN hg (n := n) (by omega)) (hb.passN hg (n := n) (by omega)) hh
/-- one as large as z -/
def hsS (s : Sg) (u : Nat) (z : Int32) : Sg := (sDay s, sWet s, sBur s, sSiz s, sWor s, sWho s, upg (sHee s) u z, sSor s)
theorem LcS.hs (hne : sWho s h ≠ nI u) (hg : GdP g) : LcS g h s (hsS s u v) := ⟨rfl, rfl, rfl, rfl, rfl, rfl, fun w hw z => by
  show sHee s w = upg (sHee s) u v w
  rw [upg_ne]
  intro e; subst e; exact hne z⟩
theorem GdS.hs (hd : GdS D g s) (hv : bnd v 1 99) : GdS D g (hsS s u v) := ⟨hd.1, hd.2.1, hd.2.2.1, fun q hq => ⟨by
  show bnd (upg (sHee s) u v q) 1 99
  by_cases e : q = u
  · subst e; rw [upg_eq]; exact hv
  · rw [upg_ne e]; exact (hd.2.2.2.1 q hq).1, (hd.2.2.2.1 q hq).2⟩, hd.2.2.2.2⟩
theorem SeV.qc (hs : SeV M 40 g E) (w : QC M M') : SeV M' 40 g E := by
  have e : ∀ k, k ∈ [40, 41, 42, 43] → mI M' k = mI M k := fun k hk => w.2.2.2.2 k (by
    have : ∀ k ∈ [40, 41, 42, 43], k ∉ ScC := by decide
    exact this k hk)
  unfold SeV
  rw [e 40 (by decide), show mI M' (40 + 1) = mI M (40 + 1) from e 41 (by decide), show mI M' (40 + 2) = mI M (40 + 2) from e 42 (by decide), show mI M' (40 + 3) = mI M (40 + 3) from e 43 (by decide)]
  exact hs
def seB (E : List Se) (h n : Nat) (v : Int32) (i : Nat) : Prop := ∃ e, E[i]? = some e ∧ e.1 = h ∧ e.2.1 = n ∧ e.2.2 ≠ v
theorem C_agrees (hL : Lay M) (hs : SeV M 40 g E) (hg : GdP g) (hh : h < gH g) (hn : n ≤ 20) : F_X5_agrees 40 (nI h) (nI n) v M = some (if fsN (seB E h n v) E.length 0 < E.length then 0 else 1) := by
  have g1 := hg.1
  obtain ⟨h1, h8, h2⟩ := hs
  obtain ⟨-, e, -⟩ := loop_f (step := fun z : Int32 => F_X5_agrees_s3 40 (nI h) (nI n) v M z) (fun i _ => nI i) (fun _ => .inl ()) (fun _ _ => .inr 0) (seB E h n v) (fun _ _ => True) (fun _ => True) E.length (by
    intro i _ hi _
    obtain ⟨e, he⟩ : ∃ e, E[i]? = some e := ⟨E[i], List.getElem?_eq_getElem hi⟩
    obtain ⟨q1, q2, q3, q4, q5, q6⟩ := h2 i e he
    have q1' : mI M 41 i = nI e.1 := q1
    have q2' : mI M 42 i = nI e.2.1 := q2
    have q3' : mI M 43 i = e.2.2 := q3
    have un : ∀ e', E[i]? = some e' → e' = e := fun e' z => by rw [he] at z; exact (Option.some.inj z).symm
    unfold F_X5_agrees_s3
    rw [Lf_40 hL, ob_t, h1, if_neg (nI_ge hi (by omega)), Lp_40_0 hL, ob_t, La_41 hL (by omega), ob_t, q1', nI_1, Lp_40_1 hL, ob_t, La_42 hL (by omega), ob_t, q2', Lp_40_2 hL, ob_t, La_43 hL (by omega), ob_t, q3']
    by_cases c1 : e.1 = h
    · rw [if_pos (by rw [c1])]
      by_cases c2 : e.2.1 = n
      · rw [if_pos (by rw [c2])]
        by_cases c3 : e.2.2 = v
        · rw [if_pos c3]
          exact Or.inr ⟨fun ⟨e', z, _, _, z3⟩ => by rw [un e' z] at z3; exact z3 c3, M, rfl, trivial⟩
        · rw [if_neg c3]
          exact Or.inl ⟨⟨e, he, c1, c2, c3⟩, M, rfl, trivial⟩
      · rw [if_neg (fun z => c2 ((nI_eq (by omega) (by omega)).mp z))]
        exact Or.inr ⟨fun ⟨e', z, _, z2, _⟩ => by rw [un e' z] at z2; exact c2 z2, M, rfl, trivial⟩
    · rw [if_neg (fun z => c1 ((nI_eq (by omega) (by omega)).mp z))]
      exact Or.inr ⟨fun ⟨e', z, z1, _⟩ => by rw [un e' z] at z1; exact c1 z1, M, rfl, trivial⟩) (by
    intro _ _
    refine ⟨?_, trivial⟩
    unfold F_X5_agrees_s3
    rw [Lf_40 hL, ob_t, h1, if_pos (nI_le (Nat.le_refl _) (by omega))]) E.length 0 M (by omega) trivial
  unfold F_X5_agrees
  split at e
  · rename_i z
    have e' : loop (fun z : Int32 => F_X5_agrees_s3 40 (nI h) (nI n) v M z) (0 : Int32) = _ := e
    rw [e', ob_t, if_pos z]; rfl
  · rename_i z
    have e' : loop (fun z : Int32 => F_X5_agrees_s3 40 (nI h) (nI n) v M z) (0 : Int32) = _ := e
    rw [e', ob_t, if_neg z]; rfl
theorem C_agr1 (hL : Lay M) (hs : SeV M 40 g E) (hg : GdP g) (hh : h < gH g) (hn : n ≤ 20) : ((∀ e, e ∈ E → e.1 = h → e.2.1 = n → e.2.2 = v) ∧ F_X5_agrees 40 (nI h) (nI n) v M = some 1) ∨ ((∃ e, e ∈ E ∧ e.1 = h ∧ e.2.1 = n ∧ e.2.2 ≠ v) ∧ F_X5_agrees 40 (nI h) (nI n) v M = some 0) := by
  rw [C_agrees hL hs hg hh hn]
  by_cases z : fsN (seB E h n v) E.length 0 < E.length
  · right
    rw [if_pos z]
    obtain ⟨e, h1, h2⟩ := fsN_at (P := seB E h n v) E.length 0 (by omega)
    exact ⟨⟨e, List.mem_of_getElem? h1, h2⟩, rfl⟩
  · left
    rw [if_neg z]
    refine ⟨fun e he h1 h2 => ?_, rfl⟩
    obtain ⟨i, hi, ei⟩ := List.getElem_of_mem he
    have := fsN_lt (P := seB E h n v) E.length 0 i (by omega) (by omega)
    refine Classical.byContradiction fun c => this ⟨e, ?_, h1, h2, c⟩
    rw [List.getElem?_eq_getElem hi, ei]
end
