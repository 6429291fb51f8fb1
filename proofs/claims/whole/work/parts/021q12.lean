/-! ===== houses are traded in rings ===== -/
section
variable {M M' : Mem} {p u h : Nat} {g : Pg} {s : Sg} {l x : Int32} {D : Int}
theorem bsP_none {up : Int32 → Int32 → Bool} {ok : Nat → Bool} {key : Nat → Int32} {v0 : Int32} : ∀ n, n < 2 ^ 31 → (∀ i, i < n → ok i = true → up v0 (key i) = true) → (bsP up ok key v0 n).1 = -1 → ∀ k, k < n → ok k = false := by
  intro n
  induction n with
  | zero => intro _ _ _ k hk; omega
  | succ n ih =>
    intro hn h0 h k hk
    have e : bsP up ok key v0 (n + 1) = if ok n && up (bsP up ok key v0 n).2 (key n) then (nI n, key n) else bsP up ok key v0 n := rfl
    rw [e] at h
    by_cases c : (ok n && up (bsP up ok key v0 n).2 (key n)) = true
    · rw [if_pos c] at h; exact absurd h (nI_nm1 (by omega))
    · rw [if_neg c] at h
      by_cases z : k = n
      · subst z
        cases o : ok k
        · rfl
        · rcases bsP_case (up := up) (ok := ok) (key := key) (v0 := v0) k with ⟨-, h2⟩ | ⟨j, hj, -, h3, -⟩
          · exact absurd (by rw [o, h2, h0 k (by omega) o]; rfl) c
          · rw [h3] at h; exact absurd h (nI_nm1 (by omega))
      · exact ih (by omega) (fun i hi => h0 i (by omega)) h k (by omega)
theorem pigeon : ∀ (n : Nat) (f : Nat → Nat), (∀ i, i ≤ n → f i < n) → ∃ i j, i < j ∧ j ≤ n ∧ f i = f j := by
  intro n
  induction n with
  | zero => intro f h; have := h 0 (Nat.le_refl _); omega
  | succ n ih =>
    intro f h
    by_cases c : ∃ i, i ≤ n ∧ f i = f (n + 1)
    · obtain ⟨i, h1, h2⟩ := c; exact ⟨i, n + 1, by omega, Nat.le_refl _, h2⟩
    · have ne : ∀ i, i ≤ n → f i ≠ f (n + 1) := fun i hi z => c ⟨i, hi, z⟩
      have hl := h (n + 1) (Nat.le_refl _)
      obtain ⟨i, j, h1, h2, h3⟩ := ih (fun i => if f i < f (n + 1) then f i else f i - 1) (fun i hi => by
        have a := ne i hi; have b := h i (by omega)
        split <;> omega)
      refine ⟨i, j, h1, by omega, ?_⟩
      have a := ne i (by omega); have b := ne j h2
      split at h3 <;> split at h3 <;> omega
def keT (s : Sg) (u i : Nat) : Int32 := abI (sSiz s i - sHee s u)
def wtS (g : Pg) (s : Sg) (l : Int32) (u : Nat) : Int32 := (bsP upN (fun i => bitI l i) (keT s u) 100 (gH g)).1
def okL (g : Pg) (s : Sg) (l : Int32) : Prop := ∀ h, bitI l h = true → occ g s h
def inl (g : Pg) (s : Sg) (l : Int32) (u : Nat) : Prop := u < gN g ∧ ∃ h, bitI l h = true ∧ sWho s h = nI u
theorem keT_up (hd : GdS D g s) (hu : u < gN g) {i : Nat} (hi : i < gH g) : upN 100 (keT s u i) = true := by
  have a1 := (hd.2.2.1 i hi).1; have a2 := (hd.2.2.2.1 u hu).1
  unfold bnd at a1 a2
  unfold keT
  rw [upNt, ti_le, abI_toInt (by rw [ti_sub (by omega) (by omega)]; omega), ti_sub (by omega) (by omega), show (100 : Int32).toInt = 100 from rfl]; omega
theorem wt_in (hg : GdP g) (hd : GdS D g s) (hk : okL g s l) (hl : l ≠ 0) (hu : u < gN g) : ∃ k, wtS g s l u = nI k ∧ k < gH g ∧ bitI l k = true := by
  have g1 := hg.1
  rcases bsP_case (up := upN) (ok := fun i => bitI l i) (key := keT s u) (v0 := 100) (gH g) with ⟨h1, -⟩ | ⟨k, h1, h2, h3, -⟩
  · obtain ⟨b, hb⟩ := bit_n0 hl
    have := bsP_none (gH g) (by omega) (fun i hi _ => keT_up hd hu hi) h1 b (hk b hb).1
    rw [hb] at this; cases this
  · exact ⟨k, h3, h1, h2⟩
def nxS (g : Pg) (s : Sg) (l : Int32) (u : Nat) : Nat := (sWho s (wtS g s l u).toNatClampNeg).toNatClampNeg
theorem nx_in (hg : GdP g) (hd : GdS D g s) (hk : okL g s l) (hl : l ≠ 0) (hu : u < gN g) : ∃ k, wtS g s l u = nI k ∧ k < gH g ∧ bitI l k = true ∧ sWho s k = nI (nxS g s l u) ∧ inl g s l (nxS g s l u) := by
  have g1 := hg.1
  have g2 := hg.2.1
  obtain ⟨k, h1, h2, h3⟩ := wt_in hg hd hk hl hu
  obtain ⟨q, hq, e, -⟩ := hd.who h2 (hk k h3).2
  have en : nxS g s l u = q := by unfold nxS; rw [h1, nI_clamp (by omega), e, nI_clamp (by omega)]
  exact ⟨k, h1, h2, h3, by rw [en]; exact e, by rw [en]; exact ⟨hq, k, h3, e⟩⟩
def nxN (g : Pg) (s : Sg) (l : Int32) (u : Nat) : Nat → Nat := itN (fun _ v => nxS g s l v) u
theorem nxN_in (hg : GdP g) (hd : GdS D g s) (hk : okL g s l) (hl : l ≠ 0) (hu : inl g s l u) : ∀ i, inl g s l (nxN g s l u i) := by
  intro i
  induction i with
  | zero => exact hu
  | succ i ih => obtain ⟨-, -, -, -, -, z⟩ := nx_in hg hd hk hl ih.1; exact z
theorem nxN_add (i : Nat) : ∀ k, nxN g s l (nxN g s l u i) k = nxN g s l u (i + k) := by
  intro k
  induction k with
  | zero => rfl
  | succ k ih => show nxS g s l (nxN g s l (nxN g s l u i) k) = nxS g s l (nxN g s l u (i + k)); rw [ih]
def rgP (g : Pg) (s : Sg) (l : Int32) (u i : Nat) : Prop := nxN g s l u (i + 1) = u
noncomputable def rgS (g : Pg) (s : Sg) (l : Int32) (u : Nat) : Int32 := if fsN (rgP g s l u) 8 0 < 8 then nI (fsN (rgP g s l u) 8 0 + 1) else 0
theorem rg_some (hg : GdP g) (hd : GdS D g s) (hk : okL g s l) (hl : l ≠ 0) : ∃ u, inl g s l u ∧ rgS g s l u ≠ 0 := by
  have g2 := hg.2.1
  obtain ⟨b, hb⟩ := bit_n0 hl
  obtain ⟨q, hq, e, -⟩ := hd.who (hk b hb).1 (hk b hb).2
  have hi := nxN_in hg hd hk hl (u := q) ⟨hq, b, hb, e⟩
  obtain ⟨i, j, h1, h2, h3⟩ := pigeon 8 (nxN g s l q) (fun i _ => by have := (hi i).1; omega)
  refine ⟨nxN g s l q i, hi i, ?_⟩
  have hr : rgP g s l (nxN g s l q i) (j - i - 1) := by
    unfold rgP
    rw [nxN_add, show i + (j - i - 1 + 1) = j by omega]; exact h3.symm
  have f8 : fsN (rgP g s l (nxN g s l q i)) 8 0 < 8 := by
    by_cases z : fsN (rgP g s l (nxN g s l q i)) 8 0 < 8
    · exact z
    · exact absurd hr (fsN_lt 8 0 (j - i - 1) (by omega) (by omega))
  unfold rgS
  rw [if_pos f8]
  intro z
  have := (nI_eq (b := 0) (by omega) (by omega)).mp z
  omega
-- a round
def clF (g : Pg) (s : Sg) (l : Int32) (h : Nat) : Prop := bitI l h = true ∧ rgS g s l (sWho s h).toNatClampNeg ≠ 0
noncomputable def clM (g : Pg) (s : Sg) (l : Int32) : Nat → Int32 := itN (fun h a => by classical exact if clF g s l h then a ||| one h else a) 0
theorem clM_y {i : Nat} (z : clF g s l i) : clM g s l (i + 1) = clM g s l i ||| one i := if_pos z
theorem clM_n {i : Nat} (z : ¬ clF g s l i) : clM g s l (i + 1) = clM g s l i := if_neg z
theorem cl_bit (hg : GdP g) (k : Nat) : bitI (clM g s l (gH g)) k = true ↔ k < gH g ∧ clF g s l k := by
  have g1 := hg.1
  exact bits_row (P := clF g s l) (by omega) (fun i a _ z => if_pos z) (fun i a _ z => if_neg z) k
noncomputable def upT (g : Pg) (s : Sg) (l : Int32) (P : Nat → Prop) (v : Nat → Int32) (G : Nat → Int32) (u : Nat) : Int32 := by
  classical exact if P u ∧ rgS g s l u ≠ 0 then v u else G u
theorem upT_y {P : Nat → Prop} {v G : Nat → Int32} (z : P u ∧ rgS g s l u ≠ 0) : upT g s l P v G u = v u := by unfold upT; rw [if_pos z]
theorem upT_n {P : Nat → Prop} {v G : Nat → Int32} (z : ¬ (P u ∧ rgS g s l u ≠ 0)) : upT g s l P v G u = G u := by unfold upT; rw [if_neg z]
theorem upT_c {P Q : Nat → Prop} {v G : Nat → Int32} (z : P u ↔ Q u) : upT g s l P v G u = upT g s l Q v G u := by
  by_cases c : P u ∧ rgS g s l u ≠ 0
  · rw [upT_y c, upT_y ⟨z.mp c.1, c.2⟩]
  · rw [upT_n c, upT_n fun y => c ⟨z.mpr y.1, y.2⟩]
noncomputable def trF (g : Pg) (s : Sg) (a : Int32 × (Nat → Int32) × (Nat → Int32)) : Int32 × (Nat → Int32) × (Nat → Int32) := (a.1 &&& (clM g s a.1 (gH g) ^^^ -1), upT g s a.1 (inl g s a.1) (wtS g s a.1) a.2.1, upT g s a.1 (inl g s a.1) (rgS g s a.1) a.2.2)
theorem tr_bit (hg : GdP g) (hk : okL g s l) {G R : Nat → Int32} (k : Nat) : bitI (trF g s (l, G, R)).1 k = true ↔ bitI l k = true ∧ rgS g s l (sWho s k).toNatClampNeg = 0 := by
  have g1 := hg.1
  show bitI (l &&& (clM g s l (gH g) ^^^ -1)) k = true ↔ _
  rw [bit_and, Bool.and_eq_true]
  by_cases h32 : k < 32
  · rw [bit_not h32]
    constructor
    · rintro ⟨a, b⟩
      refine ⟨a, Classical.byContradiction fun z => ?_⟩
      rw [(cl_bit hg k).mpr ⟨(hk k a).1, a, z⟩] at b; cases b
    · rintro ⟨a, b⟩
      refine ⟨a, ?_⟩
      cases e : bitI (clM g s l (gH g)) k
      · rfl
      · exact absurd b ((cl_bit hg k).mp e).2.2
  · have : bitI l k = false := bit_big (by omega)
    rw [this]; simp
theorem tr_ok (hg : GdP g) (hk : okL g s l) {G R : Nat → Int32} : okL g s (trF g s (l, G, R)).1 := fun h z => hk h ((tr_bit hg hk h).mp z).1
theorem tr_inl (hg : GdP g) (hk : okL g s l) {G R : Nat → Int32} : inl g s (trF g s (l, G, R)).1 u ↔ inl g s l u ∧ rgS g s l u = 0 := by
  have g2 := hg.2.1
  constructor
  · rintro ⟨a, h, b, e⟩
    have := (tr_bit hg hk h).mp b
    rw [e, nI_clamp (by omega)] at this
    exact ⟨⟨a, h, this.1, e⟩, this.2⟩
  · rintro ⟨⟨a, h, b, e⟩, r⟩
    exact ⟨a, h, (tr_bit hg hk h).mpr ⟨b, by rw [e, nI_clamp (by omega)]; exact r⟩, e⟩
def cnt (f : Nat → Bool) : Nat → Nat := itN (fun k n => if f k = true then n + 1 else n) 0
theorem cnt_le {f f' : Nat → Bool} (h : ∀ k, f' k = true → f k = true) : ∀ n, cnt f' n ≤ cnt f n := by
  intro n
  induction n with
  | zero => exact Nat.le_refl _
  | succ n ih =>
    show (if f' n = true then cnt f' n + 1 else cnt f' n) ≤ (if f n = true then cnt f n + 1 else cnt f n)
    by_cases c : f' n = true
    · rw [if_pos c, if_pos (h n c)]; omega
    · rw [if_neg c]; split <;> omega
theorem cnt_lt {f f' : Nat → Bool} (h : ∀ k, f' k = true → f k = true) {j : Nat} (h1 : f j = true) (h2 : f' j = false) : ∀ n, j < n → cnt f' n < cnt f n := by
  intro n
  induction n with
  | zero => intro z; omega
  | succ n ih =>
    intro hj
    show (if f' n = true then cnt f' n + 1 else cnt f' n) < (if f n = true then cnt f n + 1 else cnt f n)
    have le := cnt_le h n
    by_cases e : j = n
    · subst e; rw [if_neg (by rw [h2]; decide), if_pos h1]; omega
    · have := ih (by omega)
      by_cases c : f' n = true
      · rw [if_pos c, if_pos (h n c)]; omega
      · rw [if_neg c]; split <;> omega
theorem cnt_n {f : Nat → Bool} : ∀ n, cnt f n ≤ n := by
  intro n
  induction n with
  | zero => exact Nat.le_refl _
  | succ n ih =>
    show (if f n = true then cnt f n + 1 else cnt f n) ≤ n + 1
    split <;> omega
noncomputable def trN (g : Pg) (s : Sg) : Nat → Int32 × (Nat → Int32) × (Nat → Int32) := itN (fun _ a => trF g s a) (usS g s, (fun _ => -1), fun _ => 0)
theorem trN_ok (hg : GdP g) : ∀ i, okL g s (trN g s i).1 := by
  intro i
  induction i with
  | zero => exact fun h z => (us_bit hg h).mp z
  | succ i ih => exact tr_ok (G := (trN g s i).2.1) (R := (trN g s i).2.2) hg ih
theorem trN_cnt (hg : GdP g) (hd : GdS D g s) : ∀ i, (trN g s i).1 = 0 ∨ cnt (fun k => bitI (trN g s i).1 k) 8 + i ≤ 8 := by
  have g1 := hg.1
  intro i
  induction i with
  | zero => right; have := cnt_n (f := fun k => bitI (trN g s 0).1 k) 8; omega
  | succ i ih =>
    by_cases z0 : (trN g s (i + 1)).1 = 0
    · exact Or.inl z0
    right
    have ok := trN_ok (s := s) hg i
    have tb : ∀ k, bitI (trN g s (i + 1)).1 k = true ↔ bitI (trN g s i).1 k = true ∧ rgS g s (trN g s i).1 (sWho s k).toNatClampNeg = 0 := tr_bit (G := (trN g s i).2.1) (R := (trN g s i).2.2) hg ok
    have nz : (trN g s i).1 ≠ 0 := fun z => by
      obtain ⟨b, hb⟩ := bit_n0 z0
      have := ((tb b).mp hb).1
      rw [z, bit_0] at this; cases this
    rcases ih with z | ih
    · exact absurd z nz
    · obtain ⟨u, ⟨hu, h, hb, e⟩, hr⟩ := rg_some hg hd ok nz
      have g2 := hg.2.1
      have := cnt_lt (f := fun k => bitI (trN g s i).1 k) (f' := fun k => bitI (trN g s (i + 1)).1 k) (fun k z => ((tb k).mp z).1) (j := h) hb (by
        cases q : bitI (trN g s (i + 1)).1 h
        · rfl
        · have := ((tb h).mp q).2
          rw [e, nI_clamp (by omega)] at this
          exact absurd this hr) 8 (by have := (ok h hb).1; omega)
      omega
theorem trN_8 (hg : GdP g) (hd : GdS D g s) : (trN g s 8).1 = 0 := by
  have g1 := hg.1
  rcases trN_cnt hg hd 8 with z | z
  · exact z
  · refine Classical.byContradiction fun y => ?_
    obtain ⟨b, hb⟩ := bit_n0 y
    have := cnt_lt (f := fun k => bitI (trN g s 8).1 k) (f' := fun _ => false) (fun k z => by cases z) (j := b) hb rfl 8 (by have := (trN_ok hg 8 b hb).1; omega)
    omega
theorem trF_0 {G R : Nat → Int32} : trF g s (0, G, R) = (0, G, R) := by
  have n0 : ∀ u, ¬ inl g s 0 u := fun u ⟨_, h, b, _⟩ => by rw [bit_0] at b; cases b
  unfold trF
  have e1 : (0 : Int32) &&& (clM g s 0 (gH g) ^^^ -1) = 0 := bit_eqT fun k => by rw [bit_and, bit_0]; simp
  have e2 : ∀ v G, upT g s 0 (inl g s 0) v G = G := fun v G => funext fun u => upT_n fun z => n0 u z.1
  show ((0 : Int32) &&& (clM g s 0 (gH g) ^^^ -1), upT g s 0 (inl g s 0) (wtS g s 0) G, upT g s 0 (inl g s 0) (rgS g s 0) R) = _
  rw [e1, e2, e2]
theorem trN_st {i : Nat} (z : (trN g s i).1 = 0) : ∀ k, trN g s (i + k) = trN g s i := by
  intro k
  induction k with
  | zero => rfl
  | succ k ih =>
    show trF g s (trN g s (i + k)) = trN g s i
    rw [ih]
    obtain ⟨⟨a, b, c⟩, e⟩ : ∃ a, trN g s i = a := ⟨_, rfl⟩
    rw [e] at z ⊢
    dsimp only at z
    rw [z]; exact trF_0
end
