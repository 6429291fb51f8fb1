/-! ===== the reference: its rows ===== -/
def RwV (f : Nat → Int32) (b : Nat) (g : Pg) (s : Sg) : Prop := f b = sDay s ∧ f (b + 1) = sBur s ∧ f (b + 2) = sWet s ∧ (∀ h, h < gH g → f (b + 3 + h) = sSiz s h ∧ f (b + 11 + h) = sWor s h ∧ f (b + 19 + h) = sWho s h) ∧ ∀ p, p < gN g → f (b + 27 + p) = sHee s p ∧ f (b + 35 + p) = sSor s p
def RlM (f : Nat → Int32) (x : Int32) (o : Option Ev) : Prop := (x = -1 ∧ o = none) ∨ ∃ k l e, x = nI k ∧ o = some e ∧ lyM f l k ∧ k + lenM l < 1400 ∧ ∀ fc, runM fc l [] = some [e fc]
def MPl (M : Mem) (g : Pg) : Prop := GdP g ∧ mI M 67 1 = nI (gH g) ∧ mI M 67 2 = nI (gN g) ∧ mI M 67 3 = nI (gD g) ∧ (∀ h, h < gH g → mI M 68 h = gGiv g h ∧ mI M 69 h = gStr g h) ∧ (∀ i, i < gN g → mI M 70 i = gGro g i) ∧ (∀ i, i < gD g → mI M 71 i = gDam g i) ∧ RlM (mI M 72) (mI M 67 4) (gEas g) ∧ RlM (mI M 72) (mI M 67 5) (gBur g)
def MB (M : Mem) (B : Int32) (b : Nat) (g : Pg) (s : Sg) (D : Int) : Prop := Lay M ∧ MPl M g ∧ B = nI b ∧ b ≤ 43 ∧ RwV (mI M 83) b g s ∧ GdS D g s
section
variable {M : Mem} {B : Int32} {b q h : Nat} {g : Pg} {s : Sg} {D : Int}
theorem MB.gp (m : MB M B b g s D) : GdP g := m.2.1.1
theorem MB.gd (m : MB M B b g s D) : GdS D g s := m.2.2.2.2.2
theorem MB.rw (m : MB M B b g s D) : RwV (mI M 83) b g s := m.2.2.2.2.1
theorem MB.nH (m : MB M B b g s D) : gI M 9 67 1 = some (nI (gH g)) := by rw [Lf_67 m.1, m.2.1.2.1]
theorem MB.nN (m : MB M B b g s D) : gI M 9 67 2 = some (nI (gN g)) := by rw [Lf_67 m.1, m.2.1.2.2.1]
theorem MB.nD (m : MB M B b g s D) : gI M 9 67 3 = some (nI (gD g)) := by rw [Lf_67 m.1, m.2.1.2.2.2.1]
theorem MB.day (m : MB M B b g s D) : aI M 100 83 (B + 0) = some (sDay s) := by rw [m.2.2.1, nIp_0, La_83 m.1 (by have := m.2.2.2.1; omega), ← m.rw.1]; rfl
theorem MB.bur (m : MB M B b g s D) : aI M 100 83 (B + 1) = some (sBur s) := by rw [m.2.2.1, nIp_1, La_83 m.1 (by have := m.2.2.2.1; omega), ← m.rw.2.1]
theorem MB.wet (m : MB M B b g s D) : aI M 100 83 (B + 2) = some (sWet s) := by rw [m.2.2.1, nIp_2, La_83 m.1 (by have := m.2.2.2.1; omega), ← m.rw.2.2.1]
theorem MB.siz (m : MB M B b g s D) (hh : h < gH g) : aI M 100 83 (B + 3 + nI h) = some (sSiz s h) := by
  have := m.gp.h8 hh; have := m.2.2.2.1
  rw [m.2.2.1, nIp_3, nI_add, La_83 m.1 (by omega), (m.rw.2.2.2.1 h hh).1]
theorem MB.wor (m : MB M B b g s D) (hh : h < gH g) : aI M 100 83 (B + 11 + nI h) = some (sWor s h) := by
  have := m.gp.h8 hh; have := m.2.2.2.1
  rw [m.2.2.1, nIp_11, nI_add, La_83 m.1 (by omega), (m.rw.2.2.2.1 h hh).2.1]
theorem MB.who (m : MB M B b g s D) (hh : h < gH g) : aI M 100 83 (B + 19 + nI h) = some (sWho s h) := by
  have := m.gp.h8 hh; have := m.2.2.2.1
  rw [m.2.2.1, nIp_19, nI_add, La_83 m.1 (by omega), (m.rw.2.2.2.1 h hh).2.2]
theorem MB.hee (m : MB M B b g s D) (hq : q < gN g) : aI M 100 83 (B + 27 + nI q) = some (sHee s q) := by
  have := m.gp.p8 hq; have := m.2.2.2.1
  rw [m.2.2.1, nIp_27, nI_add, La_83 m.1 (by omega), (m.rw.2.2.2.2 q hq).1]
theorem MB.sor (m : MB M B b g s D) (hq : q < gN g) : aI M 100 83 (B + 35 + nI q) = some (sSor s q) := by
  have := m.gp.p8 hq; have := m.2.2.2.1
  rw [m.2.2.1, nIp_35, nI_add, La_83 m.1 (by omega), (m.rw.2.2.2.2 q hq).2]
theorem MB.giv (m : MB M B b g s D) (hh : h < gH g) : aI M 100 68 (nI h) = some (gGiv g h) := by
  rw [La_68 m.1 (m.gp.h8 hh), (m.2.1.2.2.2.2.1 h hh).1]
theorem MB.str (m : MB M B b g s D) (hh : h < gH g) : aI M 100 69 (nI h) = some (gStr g h) := by
  rw [La_69 m.1 (m.gp.h8 hh), (m.2.1.2.2.2.2.1 h hh).2]
theorem MB.gro (m : MB M B b g s D) (hq : q < gN g) : aI M 100 70 (nI q) = some (gGro g q) := by
  rw [La_70 m.1 (m.gp.p8 hq), m.2.1.2.2.2.2.2.1 q hq]
/-- what a call may write at its rows -/
def WB (b : Nat) (M M' : Mem) : Prop := M'.1 = M.1 ∧ mL M' = mL M ∧ mP M' = mP M ∧ mS M' = mS M ∧ (∀ k, k ∉ [83, 85, 86] → mI M' k = mI M k) ∧ ∀ j, (j < b ∨ b + 43 ≤ j) → mI M' 83 j = mI M 83 j
theorem WB.rfl' : WB b M M := ⟨rfl, rfl, rfl, rfl, fun _ _ => rfl, fun _ _ => rfl⟩
theorem WB.trans {M' M'' : Mem} (h : WB b M M') (h' : WB b M' M'') : WB b M M'' :=
  ⟨h'.1.trans h.1, h'.2.1.trans h.2.1, h'.2.2.1.trans h.2.2.1, h'.2.2.2.1.trans h.2.2.2.1, fun k hk => (h'.2.2.2.2.1 k hk).trans (h.2.2.2.2.1 k hk), fun j hj => (h'.2.2.2.2.2 j hj).trans (h.2.2.2.2.2 j hj)⟩
theorem WB.qw {M' : Mem} (h : WB 43 M M') : QW M M' := by
  refine ⟨h.1, h.2.2.1, h.2.2.2.1, fun k _ => by rw [h.2.1], fun k j hk => ?_⟩
  by_cases e : k = 83
  · subst e
    exact h.2.2.2.2.2 j (Or.inl (by
      have : ¬ 43 ≤ j := fun z => hk (Or.inr (Or.inl ⟨rfl, z⟩))
      omega))
  · rw [h.2.2.2.2.1 k]
    simp only [List.mem_cons, List.not_mem_nil, or_false]
    rintro (z | z | z)
    · exact e z
    · subst z; exact hk (Or.inl (by decide))
    · subst z; exact hk (Or.inl (by decide))
theorem Wr.wb {L : List Nat} {M' : Mem} (w : Wr L M M') (h1 : ∀ k ∈ L, k = 85 ∨ k = 86) : WB b M M' := by
  refine ⟨w.1, w.2.1, w.2.2.1, w.2.2.2.1, fun k hk => w.2.2.2.2 k fun z => hk ?_, fun j _ => by rw [w.2.2.2.2 83 fun z => by have := h1 83 z; omega]⟩
  rcases h1 k z with e | e <;> simp [e]
theorem WB.st {M' : Mem} {j : Nat} {v : Int32} (w : WB b M M') (h1 : b ≤ j) (h2 : j < b + 43) : WB b M (stI M' 83 j v) := by
  refine ⟨w.1, w.2.1, w.2.2.1, w.2.2.2.1, fun k hk => ?_, fun i hi => ?_⟩
  · rw [mI_stne (fun z => hk (by simp [z]))]; exact w.2.2.2.2.1 k hk
  · rw [mI_steq, upg_ne (by omega)]; exact w.2.2.2.2.2 i hi
theorem Lay.wb {M' : Mem} (h : Lay M) (w : WB b M M') : Lay M' := by unfold Lay; rw [w.1, w.2.2.1]; exact h
theorem MPl.wb {M' : Mem} (h : MPl M g) (w : WB b M M') : MPl M' g := by
  unfold MPl
  have e : ∀ k, k ∉ [83, 85, 86] → mI M' k = mI M k := w.2.2.2.2.1
  rw [e 67 (by decide), e 68 (by decide), e 69 (by decide), e 70 (by decide), e 71 (by decide), e 72 (by decide)]
  exact h
theorem F_bounded {x lo hi : Int32} {M : Mem} : F_X9_bounded x lo hi M = some (if lo ≤ x then (if x ≤ hi then x else hi) else lo) := by
  unfold F_X9_bounded; repeat' split
  all_goals rfl
theorem bounded0 {x : Int32} {k : Int} (h : bnd x (-k) 99999) (h2 : k ≤ 99999) : (if (0 : Int32) ≤ x then (if x ≤ 99999 then x else 99999) else 0) = mxI 0 x := by
  have e : (99999 : Int32).toInt = 99999 := rfl
  unfold bnd at h
  unfold mxI
  by_cases c : (0 : Int32) ≤ x
  · rw [if_pos c, if_pos (by rw [ti_le, e]; omega)]
    split
    · rfl
    · rename_i z; rw [ti_le, ti_0] at c; rw [ti_lt, ti_0] at z; rw [ti_eq, ti_0]; omega
  · rw [if_neg c, if_neg]
    intro z; rw [ti_lt, ti_0] at z; rw [ti_le, ti_0] at c; omega
theorem F_lesser {x y : Int32} {M : Mem} : F_X9_lesser x y M = some (mnI x y) := by
  unfold F_X9_lesser mnI
  by_cases c : y ≤ x
  · rw [if_pos c]
    split
    · rfl
    · rename_i z; rw [ti_le] at c; rw [ti_lt] at z; congr 1; rw [ti_eq]; omega
  · rw [if_neg c, if_neg]
    intro z; rw [ti_lt] at z; rw [ti_le] at c; omega
theorem MB.tig (m : MB M B b g s D) (hq : q < gN g) (hh : h < gH g) : F_X9_tightOf 67 B (nI q) (nI h) M = some (tightS s q h) := by
  unfold F_X9_tightOf
  have h1 := (m.gd.2.2.2.1 q hq).1
  have h2 := (m.gd.2.2.1 h hh).1
  simp only [Lp_67_41 m.1, ob_t, m.hee hq, m.siz hh, F_bounded]
  rw [bounded0 (k := 99) ?_ (by omega)]
  · rfl
  · unfold bnd at *
    rw [ti_sub (by omega) (by omega)]; omega
theorem MB.told (m : MB M B b g s D) {d : Int32} (hd : 0 ≤ d.toInt) : F_X9_toldDamp 67 d M = some (toldD g d) := by
  unfold F_X9_toldDamp toldD
  simp only [m.nD, ob_t, Lp_67_9 m.1]
  have hD := m.gp.2.2.1
  obtain ⟨k, rfl, -, -, hk⟩ := bnd_nI (x := d) (lo := 0) (hi := 2147483648) ⟨hd, by have := Int32.toInt_lt d; omega⟩ (by omega)
  by_cases e : gD g = 0
  · rw [e]; rfl
  · rw [if_neg (nI_ne0 (by omega) (by omega)), if_neg (nI_ne0 (by omega) (by omega)), if_neg e, nI_rem hk (by omega) (by omega)]
    have hm : k % gD g < gD g := Nat.mod_lt _ (by omega)
    rw [La_71 m.1 (by omega), ob_t, m.2.1.2.2.2.2.2.2.1 _ hm, nI_clamp hk]
def dmp (o : Int32) (g : Pg) (s : Sg) : Int32 := if o = -1 then dampS g s else o
theorem MB.damp (m : MB M B b g s D) : F_X9_dampIn 67 B M = some (dmp (mI M 67 46) g s) := by
  unfold F_X9_dampIn dmp dampS
  simp only [Lf_67 m.1, Lp_67_41 m.1, ob_t, m.wet, m.day, Lc_67 m.1, m.told m.gd.1.1]
  by_cases c : mI M 67 46 = -1
  · rw [if_pos c, if_pos c]
    rcases m.gd.2.1 with e | e
    · rw [e]; rfl
    · rw [e]; rfl
  · rw [if_neg c, if_neg c]
theorem MB.isB (m : MB M B b g s D) (hh : h < 31) : F_X9_isBurst 67 B (nI h) M = some (if bitI (sBur s) h then 1 else 0) := by
  unfold F_X9_isBurst
  simp only [Lp_67_41 m.1, ob_t, m.bur, bit_shr hh]
  cases bitI (sBur s) h <;> rfl
theorem MB.of {M' : Mem} {s' : Sg} {D' : Int} (m : MB M B b g s D) (w : WB b M M') (hr : RwV (mI M' 83) b g s') (hd : GdS D' g s') : MB M' B b g s' D' := ⟨Lay.wb m.1 w, MPl.wb m.2.1 w, m.2.2.1, m.2.2.2.1, hr, hd⟩
theorem RwV.eq {f f' : Nat → Int32} (h : RwV f b g s) (hg : GdP g) (e : ∀ j, b ≤ j → j < b + 43 → f' j = f j) : RwV f' b g s := by
  have := hg.1; have := hg.2.1
  refine ⟨by rw [e b (by omega) (by omega)]; exact h.1, by rw [e _ (by omega) (by omega)]; exact h.2.1, by rw [e _ (by omega) (by omega)]; exact h.2.2.1, fun k hk => ?_, fun k hk => ?_⟩
  · rw [e (b + 3 + k) (by omega) (by omega), e (b + 11 + k) (by omega) (by omega), e (b + 19 + k) (by omega) (by omega)]; exact h.2.2.2.1 k hk
  · rw [e (b + 27 + k) (by omega) (by omega), e (b + 35 + k) (by omega) (by omega)]; exact h.2.2.2.2 k hk
theorem MB.wr {L : List Nat} {M' : Mem} (m : MB M B b g s D) (w : Wr L M M') (h1 : ∀ k ∈ L, k = 85 ∨ k = 86) : MB M' B b g s D :=
  m.of (Wr.wb w h1) (by rw [w.2.2.2.2 83 fun z => by have := h1 83 z; omega]; exact m.rw) m.gd
theorem MB.asks (m : MB M B b g s D) (hq : q < gN g) (hh : h < gH g) {k : Nat} {l : List (Int32 × Int32)} {f : Ev} (hl : lyM (mI M 72) l k) (hk : k + lenM l < 1400) (hr : ∀ fc, runM fc l [] = some [f fc]) : ∃ M', F_X9_asks 67 (nI k) B (nI q) (nI h) M = some (f (facS g s q h (dmp (mI M 67 46) g s)), M') ∧ Wr [85, 86] M M' := by
  have z : ∀ (j : Nat) (N : Mem) (v : Int32), Lay N → j < 7 → sI N 100 85 (nI j) v = some (stI N 85 j v) := fun j N v hN hj => Lw_85 hN hj
  have z0 : ∀ (N : Mem) (v : Int32), Lay N → sI N 100 85 0 v = some (stI N 85 0 v) := fun N v hN => z 0 N v hN (by omega)
  have z1 : ∀ (N : Mem) (v : Int32), Lay N → sI N 100 85 1 v = some (stI N 85 1 v) := fun N v hN => z 1 N v hN (by omega)
  have z2 : ∀ (N : Mem) (v : Int32), Lay N → sI N 100 85 2 v = some (stI N 85 2 v) := fun N v hN => z 2 N v hN (by omega)
  have z3 : ∀ (N : Mem) (v : Int32), Lay N → sI N 100 85 3 v = some (stI N 85 3 v) := fun N v hN => z 3 N v hN (by omega)
  have z4 : ∀ (N : Mem) (v : Int32), Lay N → sI N 100 85 4 v = some (stI N 85 4 v) := fun N v hN => z 4 N v hN (by omega)
  have z5 : ∀ (N : Mem) (v : Int32), Lay N → sI N 100 85 5 v = some (stI N 85 5 v) := fun N v hN => z 5 N v hN (by omega)
  have z6 : ∀ (N : Mem) (v : Int32), Lay N → sI N 100 85 6 v = some (stI N 85 6 v) := fun N v hN => z 6 N v hN (by omega)
  unfold F_X9_asks
  rw [Lp_67_44 m.1, ob_t, Lp_67_41 m.1, ob_t, m.hee hq, ob_t, z0 _ _ m.1, ob_t]
  have m1 : MB (stI M 85 0 (sHee s q)) B b g s D := m.wr (L := [85]) (Wr.rfl'.st (by simp)) (by simp)
  rw [Lp_67_44 m1.1, ob_t, Lp_67_41 m1.1, ob_t, m1.siz hh, ob_t, z1 _ _ m1.1, ob_t]
  have m2 := m1.wr (L := [85]) (Wr.rfl'.st (a := 85) (j := 1) (v := sSiz s h) (by simp)) (by simp)
  rw [Lp_67_44 m2.1, ob_t, Lp_67_6 m2.1, ob_t, m2.giv hh, ob_t, z2 _ _ m2.1, ob_t]
  have m3 := m2.wr (L := [85]) (Wr.rfl'.st (a := 85) (j := 2) (v := gGiv g h) (by simp)) (by simp)
  rw [Lp_67_44 m3.1, ob_t, Lp_67_41 m3.1, ob_t, m3.wor hh, ob_t, z3 _ _ m3.1, ob_t]
  have m4 := m3.wr (L := [85]) (Wr.rfl'.st (a := 85) (j := 3) (v := sWor s h) (by simp)) (by simp)
  rw [Lp_67_44 m4.1, ob_t, Lc_67 m4.1, m4.damp, ob_t, z4 _ _ m4.1, ob_t]
  have m5 := m4.wr (L := [85]) (Wr.rfl'.st (a := 85) (j := 4) (v := dmp (mI (stI (stI (stI (stI M 85 0 (sHee s q)) 85 1 (sSiz s h)) 85 2 (gGiv g h)) 85 3 (sWor s h)) 67 46) g s) (by simp)) (by simp)
  rw [Lp_67_44 m5.1, ob_t, Lp_67_41 m5.1, ob_t, m5.day, ob_t, z5 _ _ m5.1, ob_t]
  have m6 := m5.wr (L := [85]) (Wr.rfl'.st (a := 85) (j := 5) (v := sDay s) (by simp)) (by simp)
  rw [Lp_67_44 m6.1, ob_t, Lc_67 m6.1, m6.tig hq hh, ob_t, z6 _ _ m6.1, ob_t]
  have m7 := m6.wr (L := [85]) (Wr.rfl'.st (a := 85) (j := 6) (v := tightS s q h) (by simp)) (by simp)
  rw [Lc_67 m7.1]
  have hdm : mI (stI (stI (stI (stI M 85 0 (sHee s q)) 85 1 (sSiz s h)) 85 2 (gGiv g h)) 85 3 (sWor s h)) 67 46 = mI M 67 46 := by
    simp only [mI_stne (show (67 : Nat) ≠ 85 by omega)]
  rw [hdm] at m7 ⊢
  have hw : Wr [85, 86] M (stI (stI (stI (stI (stI (stI (stI M 85 0 (sHee s q)) 85 1 (sSiz s h)) 85 2 (gGiv g h)) 85 3 (sWor s h)) 85 4 (dmp (mI M 67 46) g s)) 85 5 (sDay s)) 85 6 (tightS s q h)) := ((((((((Wr.rfl' (L := [85, 86]) (M := M)).st List.mem_cons_self).st List.mem_cons_self).st List.mem_cons_self).st List.mem_cons_self).st List.mem_cons_self).st List.mem_cons_self).st List.mem_cons_self)
  obtain ⟨M', e, w⟩ := F_reckons (fc := facS g s q h (dmp (mI M 67 46) g s)) m7.1 (by rw [wr_mI hw (by decide)]; exact hl) hk (fun i hi => by
    have : i = 0 ∨ i = 1 ∨ i = 2 ∨ i = 3 ∨ i = 4 ∨ i = 5 ∨ i = 6 := by omega
    rcases this with rfl | rfl | rfl | rfl | rfl | rfl | rfl <;> simp [mI_st, facS, tightS]) (hr _)
  rw [e, bd2_t]
  exact ⟨M', rfl, hw.trans (w.mono (by simp))⟩
theorem tn30 : (30 : Int32).toInt = 30 := rfl
theorem tn10 : (10 : Int32).toInt = 10 := rfl
theorem bounded30 {x : Int32} : (if (0 : Int32) ≤ x then (if x ≤ 30 then x else 30) else 0) = mnI 30 (mxI 0 x) := by
  rw [ti_eq, mnI_toInt, mxI_toInt, tn30, ti_0]
  repeat' split
  all_goals simp only [ti_le, ti_0, tn30] at *
  all_goals omega
theorem dampS_bnd (hg : GdP g) (hd : GdS D g s) : bnd (dampS g s) 0 9 := by
  unfold dampS toldD
  repeat' split
  · exact ⟨by decide, by decide⟩
  · rename_i e; exact hg.2.2.2.2.2 _ (Nat.mod_lt _ (by omega))
  · exact ⟨by decide, by decide⟩
theorem MB.eas (m : MB M B b g s D) (hq : q < gN g) (hh : h < gH g) (ho : mI M 67 46 = -1 ∨ bnd (mI M 67 46) 0 9) : ∃ M', F_X9_easesOf 67 B (nI q) (nI h) M = some (easeS g s q h (dmp (mI M 67 46) g s), M') ∧ Wr [85, 86] M M' := by
  unfold F_X9_easesOf easeS
  rw [Lf_67 m.1, ob_t]
  rcases m.2.1.2.2.2.2.2.2.2.1 with ⟨e1, e2⟩ | ⟨k, l, f, e1, e2, e3, e4, e5⟩
  · rw [if_pos e1, e2]
    simp only [Lp_67_6 m.1, ob_t, m.giv hh, Lc_67 m.1, m.damp, Lp_67_41 m.1, m.wor hh, F_bounded, bounded30]
    refine ⟨M, ?_, Wr.rfl'⟩
    congr 2
    have h1 := (m.gp.2.2.2.1 h hh).1
    have h2 := (m.gd.2.2.1 h hh).2.1
    have h3 : bnd (dmp (mI M 67 46) g s) 0 9 := by
      unfold dmp
      split
      · exact dampS_bnd m.gp m.gd
      · rename_i z; exact ho.resolve_left z
    unfold bnd at *
    have h4 : (sWor s h / 10).toInt = (sWor s h).toInt / 10 := ti_div h2.1 (by decide)
    have h6 : (gGiv g h + dmp (mI M 67 46) g s).toInt = (gGiv g h).toInt + (dmp (mI M 67 46) g s).toInt := ti_add (by omega) (by omega)
    have h5 : (gGiv g h + dmp (mI M 67 46) g s + sWor s h / 10).toInt = (gGiv g h).toInt + (dmp (mI M 67 46) g s).toInt + (sWor s h).toInt / 10 := by
      rw [ti_add (by omega) (by omega), h6, h4]
    rw [ti_eq, mnI_toInt, mxI_toInt, tn30, ti_0, h5]
    omega
  · rw [if_neg (by rw [e1]; exact nI_nm1 (by omega)), ob_t, Lc_67 m.1, e1, e2]
    obtain ⟨M', e, w⟩ := m.asks hq hh e3 e4 e5
    rw [e, bd2_t, F_bounded, ob_t, bounded30]
    exact ⟨M', rfl, w⟩
theorem MB.go (m : MB M B b g s D) (hq : q < gN g) (hh : h < gH g) (ho : mI M 67 46 = -1 ∨ bnd (mI M 67 46) 0 9) : ∃ M', F_X9_wouldGo 67 B (nI q) (nI h) M = some (goI g s q h (dmp (mI M 67 46) g s), M') ∧ Wr [85, 86] M M' := by
  have h8 := m.gp.h8 hh
  unfold F_X9_wouldGo
  obtain ⟨M', e, w⟩ := m.eas hq hh ho
  simp only [Lc_67 m.1, m.isB (show h < 31 by omega), ob_t, m.tig hq hh, e, bd2_t]
  unfold goI goS burS
  cases hb : bitI (sBur s) h
  · by_cases c : easeS g s q h (dmp (mI M 67 46) g s) < tightS s q h
    · refine ⟨M', ?_, w⟩
      simp [c]
    · refine ⟨M', ?_, w⟩
      simp [c]
  · refine ⟨M, ?_, Wr.rfl'⟩
    simp
end
