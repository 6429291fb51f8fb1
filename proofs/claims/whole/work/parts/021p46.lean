/-! ===== what a question may change ===== -/
def ScL : List Nat := [12, 13, 22, 23, 31, 32, 33, 34, 35, 36, 37, 58, 59, 60, 61, 62, 63, 64, 65, 85, 86, 87, 88, 89, 90, 92, 93]
def Sc (k j : Nat) : Prop := k ∈ ScL ∨ (k = 83 ∧ 43 ≤ j) ∨ (k = 67 ∧ (j = 0 ∨ j = 46 ∨ j = 55))
def QW (M M' : Mem) : Prop := M'.1 = M.1 ∧ mP M' = mP M ∧ mS M' = mS M ∧ (∀ k, k ≠ 66 → mL M' k = mL M k) ∧ ∀ k j, ¬ Sc k j → mI M' k j = mI M k j
theorem QW.rfl' {M : Mem} : QW M M := ⟨rfl, rfl, rfl, fun _ _ => rfl, fun _ _ _ => rfl⟩
theorem QW.trans {M M' M'' : Mem} (h : QW M M') (h' : QW M' M'') : QW M M'' :=
  ⟨h'.1.trans h.1, h'.2.1.trans h.2.1, h'.2.2.1.trans h.2.2.1, fun k hk => (h'.2.2.2.1 k hk).trans (h.2.2.2.1 k hk), fun k j hk => (h'.2.2.2.2 k j hk).trans (h.2.2.2.2 k j hk)⟩
theorem Wr.q {L : List Nat} {M M' : Mem} (h : Wr L M M') (hL : ∀ k ∈ L, k ∈ ScL) : QW M M' :=
  ⟨h.1, h.2.2.1, h.2.2.2.1, fun k _ => by rw [h.2.1], fun k j hk => by rw [h.2.2.2.2 k fun z => hk (Or.inl (hL k z))]⟩
theorem QW.st {M M' : Mem} {a j : Nat} {v : Int32} (h : QW M M') (ha : Sc a j) : QW M (stI M' a j v) :=
  ⟨h.1, h.2.1, h.2.2.1, h.2.2.2.1, fun k i hk => by
    rw [mI_st, if_neg (fun z => hk (by rw [z.1, z.2]; exact ha))]; exact h.2.2.2.2 k i hk⟩
theorem QW.stL {M M' : Mem} {j : Nat} {v : Int64} (h : QW M M') : QW M (stL M' 66 j v) :=
  ⟨h.1, h.2.1, h.2.2.1, fun k hk => by rw [← h.2.2.2.1 k hk]; funext i; rw [mL_stL, if_neg (fun z => hk z.1)], h.2.2.2.2⟩
theorem Lay.q {M M' : Mem} (h : Lay M) (w : QW M M') : Lay M' := by unfold Lay; rw [w.1, w.2.1]; exact h
theorem QW.row {M M' : Mem} (w : QW M M') {k : Nat} (h1 : k ∉ ScL) (h2 : k ≠ 83) (h3 : k ≠ 67) : mI M' k = mI M k := by
  funext j; exact w.2.2.2.2 k j (fun z => by rcases z with z | z | z; exact h1 z; exact h2 z.1; exact h3 z.1)
theorem QW.r98 {M M' : Mem} (w : QW M M') {k : Nat} (h1 : NC ≤ k) : mI M' k = mI M k := by
  have h1 : 98 ≤ k := h1
  refine w.row (fun z => ?_) (by omega) (by omega)
  unfold ScL at z
  simp only [List.mem_cons, List.not_mem_nil, or_false] at z
  omega
theorem RuO.q {M M' : Mem} {k : Nat} {f : Ev} (h : RuO M k f) (w : QW M M') : RuO M' k f := by
  obtain ⟨h1, h2, c, l, h3, h4, h5, h6, h7, h8⟩ := h
  exact ⟨by rw [w.1]; exact h1, h2, c, l, h3, by rw [w.2.1]; exact h4, by rw [w.1]; exact h5, h6, fun i hi => by rw [w.r98 h3]; exact h7 i hi, h8⟩
theorem RuQ.q {M M' : Mem} {q : Option Nat} {f : Option Ev} (h : RuQ M q f) (w : QW M M') : RuQ M' q f := by
  rcases h with h | ⟨k, e, h1, h2, h3⟩
  · exact Or.inl h
  · exact Or.inr ⟨k, e, h1, h2, h3.q w⟩
theorem PlV.q {M M' : Mem} {p : Nat} {g : Pg} (h : PlV M p g) (w : QW M M') (hp : p = 4 ∨ p = 14) : PlV M' p g := by
  obtain ⟨h1, h2, h3, h4, h5, h6, h7, h8, h9, h10⟩ := h
  have e : ∀ j, j < 8 → mI M' (p + j) = mI M (p + j) := fun j hj => by
    refine w.row (fun z => ?_) (by omega) (by omega)
    unfold ScL at z
    simp only [List.mem_cons, List.not_mem_nil, or_false] at z
    omega
  have e0 : mI M' p = mI M p := e 0 (by omega)
  have h1' : PlO M' p := by unfold PlO; rw [w.1, w.2.1]; exact h1
  exact ⟨h1', h2, by rw [e0]; exact h3, by rw [e0]; exact h4, by rw [e0]; exact h5, fun i hi => by rw [e 2 (by omega), e 3 (by omega)]; exact h6 i hi, fun i hi => by rw [e 5 (by omega)]; exact h7 i hi, fun i hi => by rw [e 7 (by omega)]; exact h8 i hi, by rw [w.2.1]; exact h9.q w, by rw [w.2.1]; exact h10.q w⟩
theorem StV.q {M M' : Mem} {a : Nat} {g : Pg} {s : Sg} (h : StV M a g s) (w : QW M M') (ha : a = 24 ∨ a = 44 ∨ NC ≤ a) : StV M' a g s := by
  obtain ⟨h1, h2, h3, h4, h5, h6⟩ := h
  have e : ∀ j, j < 7 → mI M' (a + j) = mI M (a + j) := fun j hj => by
    unfold NC at ha
    refine w.row (fun z => ?_) (by omega) (by omega)
    unfold ScL at z
    simp only [List.mem_cons, List.not_mem_nil, or_false] at z
    omega
  have e0 : mI M' a = mI M a := e 0 (by omega)
  have h1' : StO M' a := by unfold StO; rw [w.1, w.2.1]; exact h1
  exact ⟨h1', by rw [e0]; exact h2, by rw [e0]; exact h3, by rw [e0]; exact h4, fun h hh => by rw [e 1 (by omega), e 2 (by omega), e 3 (by omega)]; exact h5 h hh, fun p hp => by rw [e 4 (by omega), e 5 (by omega), e 6 (by omega)]; exact h6 p hp⟩
/-- the class, as a question finds it -/
def CQ (M : Mem) (p : Nat) (g : Pg) (s : Sg) : Prop := Lay M ∧ (p = 4 ∨ p = 14) ∧ mP M 0 2 = some p ∧ PlV M p g ∧ StV M 24 g s ∧ GdS 999 g s ∧ M.1.length + 1 ≤ CLM ∧ mS M + 6 ≤ SLM
theorem CQ.q {M M' : Mem} {p : Nat} {g : Pg} {s : Sg} (h : CQ M p g s) (w : QW M M') : CQ M' p g s :=
  ⟨h.1.q w, h.2.1, by rw [w.2.1]; exact h.2.2.1, h.2.2.2.1.q w h.2.1, h.2.2.2.2.1.q w (Or.inl rfl), h.2.2.2.2.2.1, by rw [w.1]; exact h.2.2.2.2.2.2.1, by rw [w.2.2.1]; exact h.2.2.2.2.2.2.2⟩
theorem CQ.pp {M : Mem} {p : Nat} {g : Pg} {s : Sg} (h : CQ M p g s) : gP M 8 0 2 = some p := gP_t (h.1.t rfl) h.2.2.1
theorem CQ.pl {M : Mem} {p : Nat} {g : Pg} {s : Sg} (h : CQ M p g s) : PlV M p g := h.2.2.2.1
theorem CQ.st {M : Mem} {p : Nat} {g : Pg} {s : Sg} (h : CQ M p g s) : StV M 24 g s := h.2.2.2.2.1
theorem CQ.gd {M : Mem} {p : Nat} {g : Pg} {s : Sg} (h : CQ M p g s) : GdS 999 g s := h.2.2.2.2.2.1
theorem CQ.gp {M : Mem} {p : Nat} {g : Pg} {s : Sg} (h : CQ M p g s) : GdP g := h.pl.2.1
theorem CQ.nH {M : Mem} {p : Nat} {g : Pg} {s : Sg} (h : CQ M p g s) : gI M 2 p 0 = some (nI (gH g)) := by rw [gI_t h.pl.1.1, h.pl.2.2.1]
theorem CQ.nN {M : Mem} {p : Nat} {g : Pg} {s : Sg} (h : CQ M p g s) : gI M 2 p 1 = some (nI (gN g)) := by rw [gI_t h.pl.1.1, h.pl.2.2.2.1]
theorem CQ.ck {M : Mem} {p : Nat} {g : Pg} {s : Sg} (h : CQ M p g s) {β : Type} {o : Option β} : ckO M 2 p o = o := ckO_t h.pl.1.1
theorem CQ.damp {M : Mem} {p : Nat} {g : Pg} {s : Sg} (h : CQ M p g s) : F_X2_dampOf p 24 M = some (dampS g s) := F_dampOf h.pl h.st h.gd
theorem CQ.siz {M : Mem} {p h : Nat} {g : Pg} {s : Sg} (c : CQ M p g s) (hh : h < gH g) : aI M 100 25 (nI h) = some (sSiz s h) := by rw [La_25 c.1 (c.gp.h8 hh), (c.st.2.2.2.2.1 h hh).1]
theorem CQ.wor {M : Mem} {p h : Nat} {g : Pg} {s : Sg} (c : CQ M p g s) (hh : h < gH g) : aI M 100 26 (nI h) = some (sWor s h) := by rw [La_26 c.1 (c.gp.h8 hh), (c.st.2.2.2.2.1 h hh).2.1]
theorem CQ.who {M : Mem} {p h : Nat} {g : Pg} {s : Sg} (c : CQ M p g s) (hh : h < gH g) : aI M 100 27 (nI h) = some (sWho s h) := by rw [La_27 c.1 (c.gp.h8 hh), (c.st.2.2.2.2.1 h hh).2.2]
theorem CQ.hee {M : Mem} {p q : Nat} {g : Pg} {s : Sg} (c : CQ M p g s) (hq : q < gN g) : aI M 100 28 (nI q) = some (sHee s q) := by rw [La_28 c.1 (c.gp.p8 hq), (c.st.2.2.2.2.2 q hq).1]
theorem CQ.whe {M : Mem} {p q : Nat} {g : Pg} {s : Sg} (c : CQ M p g s) (hq : q < gN g) : aI M 100 29 (nI q) = some (wheS g s q) := by rw [La_29 c.1 (c.gp.p8 hq), (c.st.2.2.2.2.2 q hq).2.1]
theorem CQ.sor {M : Mem} {p q : Nat} {g : Pg} {s : Sg} (c : CQ M p g s) (hq : q < gN g) : aI M 100 30 (nI q) = some (sSor s q) := by rw [La_30 c.1 (c.gp.p8 hq), (c.st.2.2.2.2.2 q hq).2.2]
theorem CQ.tig {M : Mem} {p q h : Nat} {g : Pg} {s : Sg} (c : CQ M p g s) (hq : q < gN g) (hh : h < gH g) : F_X6_tight 24 (nI q) (nI h) M = some (tightS s q h) := F_tight c.st c.gp hq hh
theorem CQ.sS {M : Mem} {p : Nat} {g : Pg} {s : Sg} (h : CQ M p g s) : gP M 2 p 5 = some (p + 3) := gP_t h.pl.1.1 h.pl.1.2.2.2.1.2
theorem CQ.sG {M : Mem} {p : Nat} {g : Pg} {s : Sg} (h : CQ M p g s) : gP M 2 p 4 = some (p + 2) := gP_t h.pl.1.1 h.pl.1.2.2.1.2
theorem CQ.sR {M : Mem} {p : Nat} {g : Pg} {s : Sg} (h : CQ M p g s) : gP M 2 p 7 = some (p + 5) := gP_t h.pl.1.1 h.pl.1.2.2.2.2.2.1.2
theorem CQ.str {M : Mem} {p h : Nat} {g : Pg} {s : Sg} (c : CQ M p g s) (hh : h < gH g) : aI M 100 (p + 3) (nI h) = some (gStr g h) := by rw [aI_t c.pl.1.2.2.2.1.1 (c.gp.h8 hh) (by omega), (c.pl.2.2.2.2.2.1 h hh).2]
theorem CQ.giv {M : Mem} {p h : Nat} {g : Pg} {s : Sg} (c : CQ M p g s) (hh : h < gH g) : aI M 100 (p + 2) (nI h) = some (gGiv g h) := by rw [aI_t c.pl.1.2.2.1.1 (c.gp.h8 hh) (by omega), (c.pl.2.2.2.2.2.1 h hh).1]
theorem CQ.gro {M : Mem} {p q : Nat} {g : Pg} {s : Sg} (c : CQ M p g s) (hq : q < gN g) : aI M 100 (p + 5) (nI q) = some (gGro g q) := by rw [aI_t c.pl.1.2.2.2.2.2.1.1 (c.gp.p8 hq) (by omega), c.pl.2.2.2.2.2.2.1 q hq]
noncomputable def goI (g : Pg) (s : Sg) (p h : Nat) (d : Int32) : Int32 := by
  classical exact if goS g s p h d then 1 else 0
theorem goI_or {g : Pg} {s : Sg} {p h : Nat} {d v : Int32} (hv : v = 1 ∧ goS g s p h d ∨ v = 0 ∧ ¬ goS g s p h d) : v = goI g s p h d := by
  unfold goI
  rcases hv with ⟨h1, h2⟩ | ⟨h1, h2⟩
  · rw [if_pos h2]; exact h1
  · rw [if_neg h2]; exact h1
theorem goI_nz {g : Pg} {s : Sg} {p h : Nat} {d : Int32} : nz (goI g s p h d) = goI g s p h d := by
  unfold goI; split <;> decide
theorem goI_01 {g : Pg} {s : Sg} {p h : Nat} {d : Int32} : (goI g s p h d = 1 ∧ goS g s p h d) ∨ (goI g s p h d = 0 ∧ ¬ goS g s p h d) := by
  unfold goI
  split
  · rename_i z; exact Or.inl ⟨rfl, z⟩
  · rename_i z; exact Or.inr ⟨rfl, z⟩
theorem WP2 {p k : Nat} (hp : p = 4 ∨ p = 14) (h : k ∈ [p + 8, p + 9]) : k ∈ ScL := by
  simp only [List.mem_cons, List.not_mem_nil, or_false] at h
  unfold ScL
  simp only [List.mem_cons, List.not_mem_nil, or_false]
  omega
/-- what a question of the class may change -/
def ScC : List Nat := [12, 13, 22, 23, 31, 32, 33, 34, 35, 36, 37, 58, 59, 60, 61, 62, 63, 64, 65]
def QC (M M' : Mem) : Prop := M'.1 = M.1 ∧ mP M' = mP M ∧ mS M' = mS M ∧ (∀ k, k ≠ 66 → mL M' k = mL M k) ∧ ∀ k, k ∉ ScC → mI M' k = mI M k
theorem QC.rfl' {M : Mem} : QC M M := ⟨rfl, rfl, rfl, fun _ _ => rfl, fun _ _ => rfl⟩
theorem QC.trans {M M' M'' : Mem} (h : QC M M') (h' : QC M' M'') : QC M M'' :=
  ⟨h'.1.trans h.1, h'.2.1.trans h.2.1, h'.2.2.1.trans h.2.2.1, fun k hk => (h'.2.2.2.1 k hk).trans (h.2.2.2.1 k hk), fun k hk => (h'.2.2.2.2 k hk).trans (h.2.2.2.2 k hk)⟩
theorem Wr.c {L : List Nat} {M M' : Mem} (h : Wr L M M') (hL : ∀ k ∈ L, k ∈ ScC) : QC M M' :=
  ⟨h.1, h.2.2.1, h.2.2.2.1, fun k _ => by rw [h.2.1], fun k hk => h.2.2.2.2 k fun z => hk (hL k z)⟩
theorem QC.qw {M M' : Mem} (h : QC M M') : QW M M' := ⟨h.1, h.2.1, h.2.2.1, h.2.2.2.1, fun k j hk => by
  rw [h.2.2.2.2 k fun z => hk (Or.inl ?_)]
  unfold ScC at z
  unfold ScL
  simp only [List.mem_cons, List.not_mem_nil, or_false] at z ⊢
  omega⟩
theorem QC.st {M M' : Mem} {a j : Nat} {v : Int32} (h : QC M M') (ha : a ∈ ScC) : QC M (stI M' a j v) :=
  ⟨h.1, h.2.1, h.2.2.1, h.2.2.2.1, fun k hk => by rw [mI_stne (fun z => hk (by rw [z]; exact ha))]; exact h.2.2.2.2 k hk⟩
theorem QC.stR {M M' : Mem} {a : Nat} {f : Nat → Int32} (h : QC M M') (ha : a ∈ ScC) : QC M (stR M' a f) :=
  ⟨h.1, h.2.1, h.2.2.1, h.2.2.2.1, fun k hk => by rw [mI_stRne (fun z => hk (by rw [z]; exact ha))]; exact h.2.2.2.2 k hk⟩
theorem QC.stL {M M' : Mem} {j : Nat} {v : Int64} (h : QC M M') : QC M (stL M' 66 j v) :=
  ⟨h.1, h.2.1, h.2.2.1, fun k hk => by rw [← h.2.2.2.1 k hk]; funext i; rw [mL_stL, if_neg (fun z => hk z.1)], h.2.2.2.2⟩
theorem CQ.c {M M' : Mem} {p : Nat} {g : Pg} {s : Sg} (h : CQ M p g s) (w : QC M M') : CQ M' p g s := h.q w.qw
theorem CQ.nx {M : Mem} {p : Nat} {g : Pg} {s : Sg} (h : CQ M p g s) : nX M = some (nwM M (200, 0) 6) := if_pos ⟨h.2.2.2.2.2.2.1, h.2.2.2.2.2.2.2⟩
theorem WP2c {p k : Nat} (hp : p = 4 ∨ p = 14) (h : k ∈ [p + 8, p + 9]) : k ∈ ScC := by
  simp only [List.mem_cons, List.not_mem_nil, or_false] at h
  unfold ScC
  simp only [List.mem_cons, List.not_mem_nil, or_false]
  omega
theorem WLc {p k : Nat} (hp : p = 4 ∨ p = 14) (h : k ∈ WL p 31) : k ∈ ScC := by
  unfold WL at h
  simp only [List.mem_cons, List.not_mem_nil, or_false] at h
  unfold ScC
  simp only [List.mem_cons, List.not_mem_nil, or_false]
  omega
theorem CQ.go {M : Mem} {p q h : Nat} {g : Pg} {s : Sg} (c : CQ M p g s) (hq : q < gN g) (hh : h < gH g) : ∃ M', F_X8_entersNow 0 (nI q) (nI h) M = some (goI g s q h (dampS g s), M') ∧ QC M M' := by
  obtain ⟨M', v, e, hv, w⟩ := F_enters (d := dampS g s) c.pl c.st (by have := c.2.1; omega) (by unfold NC; omega) hq hh
  refine ⟨M', ?_, w.c fun k hk => WP2c c.2.1 hk⟩
  unfold F_X8_entersNow
  have := goI_or hv
  subst this
  simp only [c.pp, Lp_0_4 c.1, ob_t, c.ck, c.damp, e, bd2_t, goI_nz]
