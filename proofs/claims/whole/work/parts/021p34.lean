theorem F_settle {M : Mem} {a h q : Nat} {g : Pg} {s : Sg} (hs : StV M a g s) (hg : GdP g) (hh : h < gH g) (hq : q < gN g) (hw : sWho s h = -1) (hu : ∀ k, k < gH g → sWho s k ≠ nI q) : ∃ M', F_X6_settle a (nI q) (nI h) M = some M' ∧ StV M' a g (sDay s, sWet s, sBur s, sSiz s, sWor s, upg (sWho s) h (nI q), sHee s, sSor s) ∧ Wr [a + 3, a + 5] M M' := by
  obtain ⟨⟨t0, ⟨t1, q1⟩, ⟨t2, q2⟩, ⟨t3, q3⟩, ⟨t4, q4⟩, ⟨t5, q5⟩, ⟨t6, q6⟩⟩, h2, h3, h4, h5, h6⟩ := hs
  have h8 := hg.h8 hh
  have p8 := hg.p8 hq
  unfold F_X6_settle
  rw [gP_t t0 q5, ob_t, sI_t t5 p8 (by omega), ob_t, gP_st, gP_t t0 q3, ob_t, sI_t (M := stI M (a + 5) q (nI h)) t3 h8 (by omega), ob_t]
  refine ⟨_, rfl, ⟨⟨t0, ⟨t1, q1⟩, ⟨t2, q2⟩, ⟨t3, q3⟩, ⟨t4, q4⟩, ⟨t5, q5⟩, ⟨t6, q6⟩⟩, ?_, ?_, ?_, fun k hk => ⟨?_, ?_, ?_⟩, fun k hk => ⟨?_, ?_, ?_⟩⟩, (Wr.rfl'.st (by simp)).st (by simp)⟩
  · rw [mI_stne (by omega), mI_stne (by omega)]; exact h2
  · rw [mI_stne (by omega), mI_stne (by omega)]; exact h3
  · rw [mI_stne (by omega), mI_stne (by omega)]; exact h4
  · rw [mI_stne (by omega), mI_stne (by omega)]; exact (h5 k hk).1
  · rw [mI_stne (by omega), mI_stne (by omega)]; exact (h5 k hk).2.1
  · rw [mI_steq, mI_stne (by omega)]
    show upg _ h (nI q) k = upg (sWho s) h (nI q) k
    unfold upg
    rw [(h5 k hk).2.2]
  · rw [mI_stne (by omega), mI_stne (by omega)]; exact (h6 k hk).1
  · rw [mI_stne (by omega), mI_steq]
    show upg _ q (nI h) k = hOf (upg (sWho s) h (nI q)) k (gH g)
    by_cases e : k = q
    · subst e
      rw [upg_eq]
      refine (hOf_some hh (by have := hg.1; omega) upg_eq fun j hj z => ?_).symm
      unfold upg at z
      split at z
      · assumption
      · exact absurd z (hu j hj)
    · rw [upg_ne e, (h6 k hk).2.1]
      refine (hOf_congr fun j hj => ?_).symm
      have k8 := hg.p8 hk
      unfold upg
      split
      · rename_i e'; subst e'
        rw [hw]
        exact ⟨fun z => absurd ((nI_eq (by omega) (by omega)).mp z) fun y => e y.symm, fun z => absurd z.symm (nI_nm1 (by omega))⟩
      · exact Iff.rfl
  · rw [mI_stne (by omega), mI_stne (by omega)]; exact (h6 k hk).2.2
theorem F_grow {M : Mem} {p a q : Nat} {g : Pg} {s : Sg} (hv : PlV M p g) (hs : StV M a g s) (hq : q < gN g) : ∃ M', F_X2_grow p a (nI q) M = some M' ∧ StV M' a g (growS g s q) ∧ Wr [a + 4] M M' := by
  obtain ⟨⟨t0, ⟨t1, q1⟩, ⟨t2, q2⟩, ⟨t3, q3⟩, ⟨t4, q4⟩, ⟨t5, q5⟩, ⟨t6, q6⟩⟩, h2, h3, h4, h5, h6⟩ := hs
  have hg := hv.2.1
  have p8 := hg.p8 hq
  unfold F_X2_grow
  rw [gP_t t0 q4, ob_t, ob_t, aI_t t4 p8 (by omega), ob_t, gP_t hv.1.1 hv.1.2.2.2.2.2.1.2, ob_t, aI_t hv.1.2.2.2.2.2.1.1 p8 (by omega), ob_t, sI_t t4 p8 (by omega), ob_t, (h6 q hq).1, hv.2.2.2.2.2.2.1 q hq]
  refine ⟨_, rfl, ⟨⟨t0, ⟨t1, q1⟩, ⟨t2, q2⟩, ⟨t3, q3⟩, ⟨t4, q4⟩, ⟨t5, q5⟩, ⟨t6, q6⟩⟩, ?_, ?_, ?_, fun k hk => ?_, fun k hk => ⟨?_, ?_, ?_⟩⟩, Wr.rfl'.st (by simp)⟩
  · rw [mI_stne (by omega)]; exact h2
  · rw [mI_stne (by omega)]; exact h3
  · rw [mI_stne (by omega)]; exact h4
  · rw [mI_stne (by omega), mI_stne (by omega), mI_stne (by omega)]; exact h5 k hk
  · rw [mI_steq]
    show upg _ q _ k = upg (sHee s) q _ k
    unfold upg
    rw [(h6 k hk).1]
  · rw [mI_stne (by omega)]; exact (h6 k hk).2.1
  · rw [mI_stne (by omega)]; exact (h6 k hk).2.2
theorem F_easing {M : Mem} {p a q h : Nat} {d : Int32} {g : Pg} {s : Sg} (hv : PlV M p g) (hs : StV M a g s) (sep : p + 10 ≤ a) (ha : a + 7 ≤ NC) (hq : q < gN g) (hh : h < gH g) : ∃ M', F_X2_easing p a (nI q) (nI h) d M = some (easeS g s q h d, M') ∧ Wr [p + 8, p + 9] M M' := by
  have hg := hv.2.1
  have h8 := hg.h8 hh
  have hR := hv.2.2.2.2.2.2.2.2.1
  unfold F_X2_easing easeS
  rw [gQ_t hv.1.1]
  rcases hR with ⟨e1, e2⟩ | ⟨k, f, e1, e2, hr⟩
  · rw [e1, e2, bdQ_n, gP_t hv.1.1 hv.1.2.2.1.2, ob_t, aI_t hv.1.2.2.1.1 h8 (by omega), ob_t, gP_t hs.1.1 hs.1.2.2.1.2, ob_t, aI_t hs.1.2.2.1.1 h8 (by omega), ob_t, (hv.2.2.2.2.2.1 h hh).1, (hs.2.2.2.2.1 h hh).2.1]
    exact ⟨M, rfl, Wr.rfl'⟩
  · obtain ⟨M1, f1, w1, f2⟩ := F_tell (d := d) hv hs sep hq hh
    obtain ⟨M2, f3, w2⟩ := F_value (p := p) (fc := facS g s q h d) (hr.wr w1 (by simp; omega)) (wr_tg w1 hv.1.2.2.2.2.2.2.2.2.1.1) (wr_tg w1 hv.1.2.2.2.2.2.2.2.2.2.1) (by omega) f2
    rw [e1, e2, bdQ_s, ckO_t hv.1.1, f1, ob_t, wr_gP w1, gP_t hv.1.1 hv.1.2.2.2.2.2.2.2.2.1.2, ob_t, wr_gP w1, gP_t hv.1.1 hv.1.2.2.2.2.2.2.2.2.2.2, ob_t, wr_ckO w1, ckO_t hr.1, f3, bd2_t]
    exact ⟨M2, rfl, (w1.mono (by simp)).trans (w2.mono (by simp))⟩
theorem F_enters {M : Mem} {p a q h : Nat} {d : Int32} {g : Pg} {s : Sg} (hv : PlV M p g) (hs : StV M a g s) (sep : p + 10 ≤ a) (ha : a + 7 ≤ NC) (hq : q < gN g) (hh : h < gH g) : ∃ M' v, F_X2_enters p a (nI q) (nI h) d M = some (v, M') ∧ (v = 1 ∧ goS g s q h d ∨ v = 0 ∧ ¬ goS g s q h d) ∧ Wr [p + 8, p + 9] M M' := by
  have hg := hv.2.1
  have h8 := hg.h8 hh
  unfold F_X2_enters
  rw [ckO_t hs.1.1, F_isBurst hs (by omega), ob_t, ckO_t hs.1.1, F_tight hs hg hq hh, ob_t, ckO_t hv.1.1]
  obtain ⟨M', f1, w1⟩ := F_easing (d := d) hv hs sep ha hq hh
  rw [f1, bd2_t]
  unfold goS burS
  cases hb : bitI (sBur s) h
  · rw [if_pos (by decide)]
    by_cases c : easeS g s q h d < tightS s q h
    · rw [if_pos c]; exact ⟨M', 0, rfl, Or.inr ⟨rfl, fun z => z.2 c⟩, w1⟩
    · rw [if_neg c]; exact ⟨M', 1, rfl, Or.inl ⟨rfl, by decide, c⟩, w1⟩
  · rw [if_neg (by decide)]
    exact ⟨M, 0, rfl, Or.inr ⟨rfl, fun z => z.1 rfl⟩, Wr.rfl'⟩
theorem F_brk {M : Mem} {a h q : Nat} {v : Int32} {g : Pg} {s : Sg} (hs : StV M a g s) (hg : GdP g) (hh : h < gH g) (hq : q < gN g) (hw : sWho s h = nI q) (hu : ∀ k, k < gH g → sWho s k = nI q → k = h) : ∃ M', F_X2_wear_j116 a (nI h) (nI q) v M = some M' ∧ StV M' a g (if v ≤ 0 then s else w2S s h) ∧ Wr [a, a + 3, a + 5] M M' := by
  unfold F_X2_wear_j116
  by_cases c : v ≤ 0
  · rw [if_pos c, if_pos c]; exact ⟨M, rfl, hs, Wr.rfl'⟩
  · rw [if_neg c, if_neg c, gI_t hs.1.1, ob_t, pI_t hs.1.1, ob_t, hs.2.2.2.1]
    have w0 : Wr [a] M (stI M a 2 (sBur s ||| (1 : Int32) <<< (nI h &&& 31))) := Wr.rfl'.st (by simp)
    have hs2 : StV (stI M a 2 (sBur s ||| (1 : Int32) <<< (nI h &&& 31))) a g (sDay s, sWet s, sBur s ||| one h, sSiz s, sWor s, sWho s, sHee s, sSor s) := by
      refine ⟨hs.1.wr w0, ?_, ?_, ?_, fun k hk => ?_, fun k hk => ?_⟩
      · rw [mI_steq, upg_ne (by omega)]; exact hs.2.1
      · rw [mI_steq, upg_ne (by omega)]; exact hs.2.2.1
      · rw [mI_steq, upg_eq]; rfl
      · rw [mI_stne (by omega), mI_stne (by omega), mI_stne (by omega)]; exact hs.2.2.2.2.1 k hk
      · rw [mI_stne (by omega), mI_stne (by omega), mI_stne (by omega)]; exact hs.2.2.2.2.2 k hk
    obtain ⟨M', f1, hs', w1⟩ := F_leave (p := 0) hs2 hg hh hq hw hu
    rw [ckO_t (M := stI M a 2 _) hs.1.1, f1, ob_t]
    exact ⟨M', rfl, hs', (w0.mono (by simp)).trans (w1.mono (by simp))⟩
