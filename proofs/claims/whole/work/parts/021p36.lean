theorem F_wear {M : Mem} {p a h : Nat} {d : Int32} {g : Pg} {s : Sg} {B : Int} (hv : PlV M p g) (hs : StV M a g s) (hd : GdS B g s) (sep : p + 10 ≤ a) (ha : a + 7 ≤ NC) (hh : h < gH g) : ∃ M', F_X2_wear p a (nI h) d M = some M' ∧ StV M' a g (wearS g s h d) ∧ Wr (WL p a) M M' := by
  have hg := hv.2.1
  have h8 := hg.h8 hh
  unfold F_X2_wear wearS
  rw [gP_t hs.1.1 hs.1.2.2.2.1.2, ob_t, aI_t hs.1.2.2.2.1.1 h8 (by omega), ob_t, (hs.2.2.2.2.1 h hh).2.2]
  by_cases hw : sWho s h = -1
  · rw [if_pos hw, if_pos hw]; exact ⟨M, rfl, hs, Wr.rfl'⟩
  · rw [if_neg hw, if_neg hw]
    obtain ⟨q, hq, e, hu⟩ := hd.who hh hw
    have q8 := hg.p8 hq
    rw [e, nI_clamp (by omega)]
    obtain ⟨⟨t0, ⟨t1, q1⟩, ⟨t2, q2⟩, ⟨t3, q3⟩, ⟨t4, q4⟩, ⟨t5, q5⟩, ⟨t6, q6⟩⟩, h2, h3, h4, h5, h6⟩ := hs
    rw [ckO_t t0, F_tight ⟨⟨t0, ⟨t1, q1⟩, ⟨t2, q2⟩, ⟨t3, q3⟩, ⟨t4, q4⟩, ⟨t5, q5⟩, ⟨t6, q6⟩⟩, h2, h3, h4, h5, h6⟩ hg hq hh, ob_t, gP_t t0 q2, ob_t, ob_t, aI_t t2 h8 (by omega), ob_t, sI_t t2 h8 (by omega), ob_t, gP_st, gP_t t0 q6, ob_t, ob_t, aI_stne (by omega), aI_t t6 q8 (by omega), ob_t, sI_t (M := stI M (a + 2) h _) t6 q8 (by omega), ob_t, (h5 h hh).2.1, (h6 q hq).2.2]
    generalize hM2 : stI (stI M (a + 2) h (mnI 99 (sWor s h + tightS s q h))) (a + 6) q (mnI 999 (sSor s q + tightS s q h)) = M2
    have w0 : Wr (WL p a) M M2 := by rw [← hM2]; exact (Wr.rfl'.st (by simp [WL])).st (by simp [WL])
    have hs2 : StV M2 a g (w1S s h q (tightS s q h)) := by
      refine ⟨StO.wr ⟨t0, ⟨t1, q1⟩, ⟨t2, q2⟩, ⟨t3, q3⟩, ⟨t4, q4⟩, ⟨t5, q5⟩, ⟨t6, q6⟩⟩ w0, ?_, ?_, ?_, fun k hk => ⟨?_, ?_, ?_⟩, fun k hk => ⟨?_, ?_, ?_⟩⟩ <;> subst hM2
      · rw [mI_stne (by omega), mI_stne (by omega)]; exact h2
      · rw [mI_stne (by omega), mI_stne (by omega)]; exact h3
      · rw [mI_stne (by omega), mI_stne (by omega)]; exact h4
      · rw [mI_stne (by omega), mI_stne (by omega)]; exact (h5 k hk).1
      · rw [mI_stne (by omega), mI_steq]
        show upg _ h _ k = upg (sWor s) h _ k
        unfold upg; rw [(h5 k hk).2.1]
      · rw [mI_stne (by omega), mI_stne (by omega)]; exact (h5 k hk).2.2
      · rw [mI_stne (by omega), mI_stne (by omega)]; exact (h6 k hk).1
      · rw [mI_stne (by omega), mI_stne (by omega)]; exact (h6 k hk).2.1
      · rw [mI_steq, mI_stne (by omega)]
        show upg _ q _ k = upg (sSor s) q _ k
        unfold upg; rw [(h6 k hk).2.2]
    have hv2 : PlV M2 p g := hv.wr w0 fun k hk => WL_in hk sep ha
    have hu2 : ∀ k, k < gH g → sWho (w1S s h q (tightS s q h)) k = nI q → k = h := hu
    rw [gQ_t hv2.1.1, gP_t hv2.1.1 hv2.1.2.2.1.2]
    rcases hv2.2.2.2.2.2.2.2.2.2 with ⟨e1, e2⟩ | ⟨k, f, e1, e2, hr⟩
    · rw [e1, bdQ_n, ob_t, aI_t hv2.1.2.2.1.1 h8 (by omega), ob_t, nm_t, (hv2.2.2.2.2.2.1 h hh).1]
      obtain ⟨M3, f1, hs3, w3⟩ := F_brk (v := tightS s q h - 9 - gGiv g h) hs2 hg hh hq e hu2
      have eb : brkS g (w1S s h q (tightS s q h)) q h d (tightS s q h) = tightS s q h - 9 - gGiv g h := by unfold brkS; rw [e2]
      rw [eb]
      exact ⟨M3, f1, hs3, w0.trans (w3.mono (by simp [WL]))⟩
    · rw [e1, bdQ_s, ob_t, aI_t hv2.1.2.2.1.1 h8 (by omega), ob_t, nm_t, ckO_t hv2.1.1]
      obtain ⟨M3, f1, w1, f2⟩ := F_tell (d := d) hv2 hs2 sep hq hh
      obtain ⟨M4, f3, w2⟩ := F_value (p := p) (fc := facS g (w1S s h q (tightS s q h)) q h d) (hr.wr w1 (by simp; omega)) (wr_tg w1 hv2.1.2.2.2.2.2.2.2.2.1.1) (wr_tg w1 hv2.1.2.2.2.2.2.2.2.2.2.1) (by omega) f2
      have hs4 : StV M4 a g (w1S s h q (tightS s q h)) := (hs2.wr w1 (by simp; omega)).wr w2 (by simp; omega)
      obtain ⟨M5, f5, hs5, w5⟩ := F_brk (v := f (facS g (w1S s h q (tightS s q h)) q h d)) hs4 hg hh hq e hu2
      have eb : brkS g (w1S s h q (tightS s q h)) q h d (tightS s q h) = f (facS g (w1S s h q (tightS s q h)) q h d) := by unfold brkS; rw [e2]
      rw [f1, ob_t, wr_gP w1, gP_t hv2.1.1 hv2.1.2.2.2.2.2.2.2.2.1.2, ob_t, wr_gP w1, gP_t hv2.1.1 hv2.1.2.2.2.2.2.2.2.2.2.2, ob_t, wr_ckO w1, ckO_t hr.1, f3, bd2_t, eb]
      exact ⟨M5, f5, hs5, ((w0.trans (w1.mono (by simp [WL]))).trans (w2.mono (by simp [WL]))).trans (w5.mono (by simp [WL]))⟩
-- what stays good
theorem bnd.mk {x : Int32} {lo hi : Int} (h1 : lo ≤ x.toInt) (h2 : x.toInt ≤ hi) : bnd x lo hi := ⟨h1, h2⟩
theorem tightS_bnd {B : Int} {g : Pg} {s : Sg} {p h : Nat} (hd : GdS B g s) (hp : p < gN g) (hh : h < gH g) : bnd (tightS s p h) 0 98 := by
  have h1 := (hd.2.2.2.1 p hp).1
  have h2 := (hd.2.2.1 h hh).1
  unfold bnd at *
  unfold tightS
  rw [mxI_toInt, ti_sub (by omega) (by omega), ti_0]
  omega
theorem tn99 : (99 : Int32).toInt = 99 := rfl
theorem tn999 : (999 : Int32).toInt = 999 := rfl
theorem tn1 : (1 : Int32).toInt = 1 := rfl
theorem tnm1 : (-1 : Int32).toInt = -1 := rfl
theorem GdS.w1 {B : Int} {g : Pg} {s : Sg} {h q : Nat} {t : Int32} (hd : GdS B g s) (hq : q < gN g) (hh : h < gH g) (ht : bnd t 0 98) : GdS B g (w1S s h q t) := by
  obtain ⟨h1, h2, h3, h4, h5, h6, h7⟩ := hd
  refine ⟨h1, h2, fun k hk => ⟨(h3 k hk).1, ?_, (h3 k hk).2.2⟩, fun k hk => ⟨(h4 k hk).1, ?_⟩, h5, h6, h7⟩
  · show bnd (upg (sWor s) h _ k) 0 99
    unfold upg
    split
    · have := (h3 h hh).2.1
      unfold bnd at *
      rw [mnI_toInt, ti_add (by omega) (by omega), tn99]
      omega
    · exact (h3 k hk).2.1
  · show bnd (upg (sSor s) q _ k) 0 999
    unfold upg
    split
    · have := (h4 q hq).2
      unfold bnd at *
      rw [mnI_toInt, ti_add (by omega) (by omega), tn999]
      omega
    · exact (h4 k hk).2
theorem GdS.w2 {B : Int} {g : Pg} {s : Sg} {h : Nat} (hd : GdS B g s) (hg : GdP g) (hh : h < gH g) : GdS B g (w2S s h) := by
  obtain ⟨h1, h2, h3, h4, h5, h6, h7⟩ := hd
  have h8 := hg.h8 hh
  refine ⟨h1, h2, fun k hk => ⟨(h3 k hk).1, (h3 k hk).2.1, ?_⟩, h4, fun j k hj hk e hn => ?_, fun k hk hn => ?_, fun k hk => ?_⟩
  · show upg (sWho s) h (-1) k = -1 ∨ ∃ p, p < gN g ∧ upg (sWho s) h (-1) k = nI p
    unfold upg
    split
    · exact Or.inl rfl
    · exact (h3 k hk).2.2
  · have e' : upg (sWho s) h (-1) j = upg (sWho s) h (-1) k := e
    have hn' : upg (sWho s) h (-1) j ≠ -1 := hn
    unfold upg at e' hn'
    split at hn'
    · exact absurd rfl hn'
    · rename_i ej
      rw [if_neg ej] at e'
      split at e'
      · exact absurd e' hn'
      · exact h5 j k hj hk e' hn'
  · have hn' : upg (sWho s) h (-1) k ≠ -1 := hn
    show bitI (sBur s ||| one h) k = false
    unfold upg at hn'
    split at hn'
    · exact absurd rfl hn'
    · rename_i ej
      rw [bit_or1 (by omega), h6 k hk hn']
      simp [ej]
  · show bitI (sBur s ||| one h) k = false
    rw [bit_or1 (by omega), h7 k hk]
    simp; omega
theorem GdS.wear {B : Int} {g : Pg} {s : Sg} {h : Nat} {d : Int32} (hd : GdS B g s) (hg : GdP g) (hh : h < gH g) : GdS B g (wearS g s h d) := by
  unfold wearS
  split
  · exact hd
  · rename_i hw
    obtain ⟨q, hq, e, -⟩ := hd.who hh hw
    have q8 := hg.p8 hq
    rw [e, nI_clamp (by omega)]
    have h1 := hd.w1 hq hh (tightS_bnd hd hq hh)
    split
    · exact h1
    · exact h1.w2 hg hh
theorem GdS.grow {B : Int} {g : Pg} {s : Sg} {p : Nat} (hd : GdS B g s) (hg : GdP g) (hp : p < gN g) : GdS B g (growS g s p) := by
  obtain ⟨h1, h2, h3, h4, h5, h6, h7⟩ := hd
  refine ⟨h1, h2, h3, fun k hk => ⟨?_, (h4 k hk).2⟩, h5, h6, h7⟩
  show bnd (upg (sHee s) p _ k) 1 99
  unfold upg
  split
  · have a1 := (h4 p hp).1
    have a2 := hg.2.2.2.2.1 p hp
    unfold bnd at *
    rw [mnI_toInt, ti_add (by omega) (by omega), tn99]
    omega
  · exact (h4 k hk).1
theorem GdS.wearN {B : Int} {g : Pg} {s : Sg} {d : Int32} (hd : GdS B g s) (hg : GdP g) : ∀ {n : Nat}, n ≤ gH g → GdS B g (wearN g d n s)
  | 0, _ => hd
  | n + 1, hn => (GdS.wearN hd hg (n := n) (by omega)).wear hg hn
theorem GdS.growN {B : Int} {g : Pg} {s : Sg} (hd : GdS B g s) (hg : GdP g) : ∀ {n : Nat}, n ≤ gN g → GdS B g (growN g n s)
  | 0, _ => hd
  | n + 1, hn => (GdS.growN hd hg (n := n) (by omega)).grow hg hn
theorem GdS.tick {B : Int} {g : Pg} {s : Sg} (hd : GdS B g s) (hB : B < 100000) : GdS (B + 1) g (tickS s) := by
  obtain ⟨h1, h2, h3, h4, h5, h6, h7⟩ := hd
  refine ⟨?_, Or.inl rfl, h3, h4, h5, h6, h7⟩
  show bnd (sDay s + 1) 0 (B + 1)
  unfold bnd at *
  rw [ti_add (by rw [tn1]; omega) (by rw [tn1]; omega), tn1]
  omega
theorem GdS.day {B : Int} {g : Pg} {s : Sg} {d : Int32} (hd : GdS B g s) (hg : GdP g) (hB : B < 100000) : GdS (B + 1) g (dayS g d s) := ((hd.wearN hg (Nat.le_refl _)).growN hg (Nat.le_refl _)).tick hB
theorem GdS.mono {B B' : Int} {g : Pg} {s : Sg} (hd : GdS B g s) (h : B ≤ B') : GdS B' g s := ⟨⟨hd.1.1, Int.le_trans hd.1.2 h⟩, hd.2⟩
theorem GdS.passN {B : Int} {g : Pg} {s : Sg} (hd : GdS B g s) (hg : GdP g) : ∀ {n : Nat}, B + n < 100000 → GdS (B + n) g (passN g n s)
  | 0, _ => hd.mono (by omega)
  | n + 1, h => ((GdS.passN hd hg (n := n) (by omega)).day hg (by omega)).mono (by omega)
