/-! ===== the memory, as the functions find it ===== -/
theorem mI_st {M : Mem} {a j : Nat} {v : Int32} {k i : Nat} : mI (stI M a j v) k i = if k = a ∧ i = j then v else mI M k i := by
  unfold mI stI rw1 upg
  by_cases hk : k = a
  · subst hk
    by_cases hi : i = j <;> simp [hi]
  · simp [hk]
theorem mI_stne {M : Mem} {a j : Nat} {v : Int32} {k : Nat} (h : k ≠ a) : mI (stI M a j v) k = mI M k := by
  funext i; rw [mI_st, if_neg (fun z => h z.1)]
theorem mI_steq {M : Mem} {a j : Nat} {v : Int32} : mI (stI M a j v) a = upg (mI M a) j v := by
  funext i; rw [mI_st]; unfold upg; simp
theorem tg_st {M : Mem} {a j : Nat} {v : Int32} : (stI M a j v).1 = M.1 := rfl
theorem mP_st {M : Mem} {a j : Nat} {v : Int32} : mP (stI M a j v) = mP M := rfl
theorem mL_st {M : Mem} {a j : Nat} {v : Int32} : mL (stI M a j v) = mL M := rfl
theorem mS_st {M : Mem} {a j : Nat} {v : Int32} : mS (stI M a j v) = mS M := rfl
theorem tg_stL {M : Mem} {a j : Nat} {v : Int64} : (stL M a j v).1 = M.1 := rfl
theorem mP_stL {M : Mem} {a j : Nat} {v : Int64} : mP (stL M a j v) = mP M := rfl
theorem mI_stL {M : Mem} {a j : Nat} {v : Int64} : mI (stL M a j v) = mI M := rfl
theorem mS_stL {M : Mem} {a j : Nat} {v : Int64} : mS (stL M a j v) = mS M := rfl
theorem mL_stL {M : Mem} {a j : Nat} {v : Int64} {k i : Nat} : mL (stL M a j v) k i = if k = a ∧ i = j then v else mL M k i := by
  unfold mL stL rw1 upg
  by_cases hk : k = a
  · subst hk
    by_cases hi : i = j <;> simp [hi]
  · simp [hk]
theorem tg_stP {M : Mem} {a j : Nat} {v : Option Nat} : (stP M a j v).1 = M.1 := rfl
theorem mI_stP {M : Mem} {a j : Nat} {v : Option Nat} : mI (stP M a j v) = mI M := rfl
theorem mL_stP {M : Mem} {a j : Nat} {v : Option Nat} : mL (stP M a j v) = mL M := rfl
theorem mS_stP {M : Mem} {a j : Nat} {v : Option Nat} : mS (stP M a j v) = mS M := rfl
theorem mP_stP {M : Mem} {a j : Nat} {v : Option Nat} {k i : Nat} : mP (stP M a j v) k i = if k = a ∧ i = j then v else mP M k i := by
  unfold mP stP rw1 upg
  by_cases hk : k = a
  · subst hk
    by_cases hi : i = j <;> simp [hi]
  · simp [hk]
theorem gI_t {M : Mem} {ci k j : Nat} (h : M.1[k]? = some (ci, 0)) : gI M ci k j = some (mI M k j) := if_pos h
theorem gL_t {M : Mem} {ci k j : Nat} (h : M.1[k]? = some (ci, 0)) : gL M ci k j = some (mL M k j) := if_pos h
theorem gQ_t {M : Mem} {ci k j : Nat} (h : M.1[k]? = some (ci, 0)) : gQ M ci k j = some (mP M k j) := if_pos h
theorem gP_t {M : Mem} {ci k j v : Nat} (h : M.1[k]? = some (ci, 0)) (h2 : mP M k j = some v) : gP M ci k j = some v := (if_pos h).trans h2
theorem pI_t {M : Mem} {ci k j : Nat} {v : Int32} (h : M.1[k]? = some (ci, 0)) : pI M ci k j v = some (stI M k j v) := if_pos h
theorem pL_t {M : Mem} {ci k j : Nat} {v : Int64} (h : M.1[k]? = some (ci, 0)) : pL M ci k j v = some (stL M k j v) := if_pos h
theorem pQ_t {M : Mem} {ci k j : Nat} {v : Option Nat} (h : M.1[k]? = some (ci, 0)) : pQ M ci k j v = some (stP M k j v) := if_pos h
theorem pZ_t {M : Mem} {ci k j : Nat} {v : Int32} (hv : v = 0 ∨ v = 1) (h : M.1[k]? = some (ci, 0)) : pZ M ci k j v = some (stI M k j v) := (if_pos hv).trans (if_pos h)
theorem ckO_t {β : Type} {M : Mem} {ci b : Nat} {k : Option β} (h : M.1[b]? = some (ci, 0)) : ckO M ci b k = k := if_pos h
theorem tl_t {M : Mem} {kd k n : Nat} (h : M.1[k]? = some (kd, n)) : tl M kd k = some n := by unfold tl; rw [h]; simp
theorem alen_t {M : Mem} {kd k n : Nat} (h : M.1[k]? = some (kd, n)) : alen M kd k = some (nI n) := by unfold alen; rw [tl_t h]; rfl
theorem aI_t {M : Mem} {kd k n i : Nat} (h : M.1[k]? = some (kd, n)) (hi : i < n) (hn : n < 2 ^ 31) : aI M kd k (nI i) = some (mI M k i) := by
  unfold aI; rw [tl_t h]; show (if _ then _ else _) = _; rw [if_neg (nI_in hi hn), nI_clamp (by omega)]
theorem sI_t {M : Mem} {kd k n i : Nat} {v : Int32} (h : M.1[k]? = some (kd, n)) (hi : i < n) (hn : n < 2 ^ 31) : sI M kd k (nI i) v = some (stI M k i v) := by
  unfold sI; rw [tl_t h]; show (if _ then _ else _) = _; rw [if_neg (nI_in hi hn), nI_clamp (by omega)]
theorem aL_t {M : Mem} {k n i : Nat} (h : M.1[k]? = some (103, n)) (hi : i < n) (hn : n < 2 ^ 31) : aL M k (nI i) = some (mL M k i) := by
  unfold aL; rw [tl_t h]; show (if _ then _ else _) = _; rw [if_neg (nI_in hi hn), nI_clamp (by omega)]
theorem sL_t {M : Mem} {k n i : Nat} {v : Int64} (h : M.1[k]? = some (103, n)) (hi : i < n) (hn : n < 2 ^ 31) : sL M k (nI i) v = some (stL M k i v) := by
  unfold sL; rw [tl_t h]; show (if _ then _ else _) = _; rw [if_neg (nI_in hi hn), nI_clamp (by omega)]
theorem aQ_t {M : Mem} {k n i : Nat} (h : M.1[k]? = some (104, n)) (hi : i < n) (hn : n < 2 ^ 31) : aQ M k (nI i) = some (mP M k i) := by
  unfold aQ; rw [tl_t h]; show (if _ then _ else _) = _; rw [if_neg (nI_in hi hn), nI_clamp (by omega)]
theorem sP_t {M : Mem} {k n i v : Nat} (h : M.1[k]? = some (104, n)) (hi : i < n) (hn : n < 2 ^ 31) (hv : M.1[v]? = some (6, 0)) : sP M k (nI i) v = some (stP M k i (some v)) := by
  unfold sP; rw [tl_t h]; show (if _ then _ else _) = _; rw [if_neg, nI_clamp (by omega)]
  rintro (z | z)
  · exact nI_in hi hn z
  · exact z hv
theorem cpI_t {M : Mem} {a b n0 n1 s d n : Nat} (ha : M.1[a]? = some (100, n0)) (hb : M.1[b]? = some (100, n1)) (h0 : s + n ≤ n0) (h1 : d + n ≤ n1) (hn0 : n0 < 2 ^ 31) (hn1 : n1 < 2 ^ 31) :
    cpI M a (nI s) b (nI d) (nI n) = some (M.1, rw1 M.2.1 b (va_cpy (M.2.1 a) (M.2.1 b) s d n), M.2.2) := by
  unfold cpI
  rw [tl_t ha, tl_t hb]
  show (if _ then _ else _) = _
  rw [nI_clamp (by omega), nI_clamp (by omega), nI_clamp (by omega), if_neg]
  rintro (z | z | z | z | z)
  · exact nI_pos (by omega) z
  · exact nI_pos (by omega) z
  · exact nI_pos (by omega) z
  · omega
  · omega
/-- a whole row of ints is set -/
def stR (M : Mem) (a : Nat) (f : Nat → Int32) : Mem := (M.1, rw1 M.2.1 a f, M.2.2)
theorem tg_stR {M : Mem} {a : Nat} {f : Nat → Int32} : (stR M a f).1 = M.1 := rfl
theorem mP_stR {M : Mem} {a : Nat} {f : Nat → Int32} : mP (stR M a f) = mP M := rfl
theorem mL_stR {M : Mem} {a : Nat} {f : Nat → Int32} : mL (stR M a f) = mL M := rfl
theorem mS_stR {M : Mem} {a : Nat} {f : Nat → Int32} : mS (stR M a f) = mS M := rfl
theorem mI_stR {M : Mem} {a : Nat} {f : Nat → Int32} {k : Nat} : mI (stR M a f) k = if k = a then f else mI M k := rfl
theorem mI_stReq {M : Mem} {a : Nat} {f : Nat → Int32} : mI (stR M a f) a = f := by rw [mI_stR, if_pos rfl]
theorem mI_stRne {M : Mem} {a : Nat} {f : Nat → Int32} {k : Nat} (h : k ≠ a) : mI (stR M a f) k = mI M k := by rw [mI_stR, if_neg h]
theorem stI_R {M : Mem} {a j : Nat} {v : Int32} : stI M a j v = stR M a (upg (mI M a) j v) := rfl
theorem cpI_8 {M : Mem} {a b : Nat} (ha : M.1[a]? = some (100, 8)) (hb : M.1[b]? = some (100, 8)) : cpI M a 0 b 0 8 = some (stR M b (va_cpy (mI M a) (mI M b) 0 0 8)) := cpI_t (s := 0) (d := 0) (n := 8) ha hb (by omega) (by omega) (by omega) (by omega)
theorem cpy_lt {α : Type} {f g : Nat → α} {n k : Nat} (h : k < n) : va_cpy f g 0 0 n k = f k := by
  unfold va_cpy; rw [if_pos ⟨Nat.zero_le _, by omega⟩]; simp
theorem upg_eq {β : Type} {f : Nat → β} {k : Nat} {x : β} : upg f k x k = x := if_pos rfl
theorem upg_ne {β : Type} {f : Nat → β} {k j : Nat} {x : β} (h : j ≠ k) : upg f k x j = f j := if_neg h
/-- tags, references, longs stay; ints change in cells of L alone -/
def Wr (L : List Nat) (M M' : Mem) : Prop := M'.1 = M.1 ∧ mL M' = mL M ∧ mP M' = mP M ∧ mS M' = mS M ∧ ∀ k, k ∉ L → mI M' k = mI M k
theorem Wr.rfl' {L : List Nat} {M : Mem} : Wr L M M := ⟨rfl, rfl, rfl, rfl, fun _ _ => rfl⟩
theorem Wr.trans {L : List Nat} {M M' M'' : Mem} (h : Wr L M M') (h' : Wr L M' M'') : Wr L M M'' :=
  ⟨h'.1.trans h.1, h'.2.1.trans h.2.1, h'.2.2.1.trans h.2.2.1, h'.2.2.2.1.trans h.2.2.2.1, fun k hk => (h'.2.2.2.2 k hk).trans (h.2.2.2.2 k hk)⟩
theorem Wr.mono {L L' : List Nat} {M M' : Mem} (h : Wr L M M') (hL : ∀ k ∈ L, k ∈ L') : Wr L' M M' := ⟨h.1, h.2.1, h.2.2.1, h.2.2.2.1, fun k hk => h.2.2.2.2 k fun z => hk (hL k z)⟩
theorem Wr.st {L : List Nat} {M M' : Mem} {a j : Nat} {v : Int32} (h : Wr L M M') (ha : a ∈ L) : Wr L M (stI M' a j v) :=
  ⟨h.1, h.2.1, h.2.2.1, h.2.2.2.1, fun k hk => (mI_stne fun z => hk (by rw [z]; exact ha)).trans (h.2.2.2.2 k hk)⟩
theorem Wr.stR {L : List Nat} {M M' : Mem} {a : Nat} {f : Nat → Int32} (h : Wr L M M') (ha : a ∈ L) : Wr L M (stR M' a f) :=
  ⟨h.1, h.2.1, h.2.2.1, h.2.2.2.1, fun k hk => (mI_stRne fun z => hk (by rw [z]; exact ha)).trans (h.2.2.2.2 k hk)⟩
theorem bd2_t {α β γ : Type} {a : α} {b : β} {f : α → β → Option γ} : bd2 (some (a, b)) f = f a b := rfl
theorem bdQ_n {β : Type} {a : Option β} {f : Nat → Option β} : bdQ (some none) a f = a := rfl
theorem bdQ_s {β : Type} {a : Option β} {f : Nat → Option β} {k : Nat} : bdQ (some (some k)) a f = f k := rfl
theorem nm_t {α β : Type} {e : α} {f : α → Option β} : nm e f = f e := rfl
theorem ob_t {α β : Type} {a : α} {f : α → Option β} : (some a).bind f = f a := rfl
theorem bdT_l {α β γ ε : Type} {a : α} {b : β} {f : α → β → Option γ} {g : ε → β → Option γ} : bdT (some (.inl (a, b))) f g = f a b := rfl
theorem bdT_r {α β γ ε : Type} {a : ε} {b : β} {f : α → β → Option γ} {g : ε → β → Option γ} : bdT (some (.inr (a, b))) f g = g a b := rfl
theorem bdV_l {β γ ε : Type} {b : β} {f : β → Option γ} {g : ε → β → Option γ} : bdV (some (.inl b)) f g = f b := rfl
theorem bdV_r {β γ ε : Type} {a : ε} {b : β} {f : β → Option γ} {g : ε → β → Option γ} : bdV (some (.inr (a, b))) f g = g a b := rfl
/-- a loop with an invariant: within n turns it comes to an end of which Q holds -/
theorem loop_ex {σ ρ : Type} {step : σ → Option (σ ⊕ ρ)} (I : Nat → σ → Prop) (Q : ρ → Prop) (n : Nat)
    (h : ∀ i s, i ≤ n → I i s → (∃ r, step s = some (.inr r) ∧ Q r) ∨ (i < n ∧ ∃ s', step s = some (.inl s') ∧ I (i + 1) s')) {s : σ} (h0 : I 0 s) : ∃ r, loop step s = some r ∧ Q r := by
  have key : ∀ k i s, i + k = n → I i s → ∃ r, loop step s = some r ∧ Q r := by
    intro k
    induction k with
    | zero =>
      intro i s hi hI
      rcases h i s (by omega) hI with ⟨r, h1, h2⟩ | ⟨h1, -⟩
      · exact ⟨r, loop_end h1, h2⟩
      · omega
    | succ k ih =>
      intro i s hi hI
      rcases h i s (by omega) hI with ⟨r, h1, h2⟩ | ⟨h1, s', h2, h3⟩
      · exact ⟨r, loop_end h1, h2⟩
      · rw [loop_turn h2]
        exact ih (i + 1) s' (by omega) h3
  exact key n 0 s (by omega) h0
/-- a loop of just n turns, through known states -/
theorem loop_run {σ ρ : Type} {step : σ → Option (σ ⊕ ρ)} (f : Nat → σ) (n : Nat) {r : ρ} (h : ∀ i, i < n → step (f i) = some (.inl (f (i + 1)))) (he : step (f n) = some (.inr r)) : loop step (f 0) = some r := by
  have key : ∀ k, k ≤ n → loop step (f 0) = loop step (f k) := by
    intro k
    induction k with
    | zero => intro _; rfl
    | succ k ih => intro hk; rw [ih (by omega), loop_turn (h k (by omega))]
  rw [key n (Nat.le_refl n)]
  exact loop_end he
theorem gP_st {M : Mem} {a j : Nat} {v : Int32} {ci k i : Nat} : gP (stI M a j v) ci k i = gP M ci k i := rfl
theorem gQ_st {M : Mem} {a j : Nat} {v : Int32} {ci k i : Nat} : gQ (stI M a j v) ci k i = gQ M ci k i := rfl
theorem ckO_st {β : Type} {M : Mem} {a j : Nat} {v : Int32} {ci k : Nat} {o : Option β} : ckO (stI M a j v) ci k o = ckO M ci k o := rfl
theorem alen_st {M : Mem} {a j : Nat} {v : Int32} {kd k : Nat} : alen (stI M a j v) kd k = alen M kd k := rfl
theorem aI_stne {M : Mem} {a j : Nat} {v : Int32} {kd k : Nat} {i : Int32} (h : k ≠ a) : aI (stI M a j v) kd k i = aI M kd k i := by unfold aI; rw [mI_stne h]; rfl
theorem gI_stne {M : Mem} {a j : Nat} {v : Int32} {ci k i : Nat} (h : k ≠ a) : gI (stI M a j v) ci k i = gI M ci k i := by unfold gI; rw [mI_stne h]; rfl
theorem wr_aI {L : List Nat} {M M' : Mem} (w : Wr L M M') {kd k : Nat} {i : Int32} (h : k ∉ L) : aI M' kd k i = aI M kd k i := by unfold aI tl; rw [w.2.2.2.2 k h, w.1]
theorem wr_gI {L : List Nat} {M M' : Mem} (w : Wr L M M') {ci k j : Nat} (h : k ∉ L) : gI M' ci k j = gI M ci k j := by unfold gI; rw [w.2.2.2.2 k h, w.1]
theorem wr_gP {L : List Nat} {M M' : Mem} (w : Wr L M M') {ci k j : Nat} : gP M' ci k j = gP M ci k j := by unfold gP; rw [w.2.2.1, w.1]
theorem wr_gQ {L : List Nat} {M M' : Mem} (w : Wr L M M') {ci k j : Nat} : gQ M' ci k j = gQ M ci k j := by unfold gQ; rw [w.2.2.1, w.1]
theorem wr_ckO {β : Type} {L : List Nat} {M M' : Mem} (w : Wr L M M') {ci k : Nat} {o : Option β} : ckO M' ci k o = ckO M ci k o := by unfold ckO; rw [w.1]
theorem wr_tg {L : List Nat} {M M' : Mem} (w : Wr L M M') {k : Nat} {t : mT} (h : M.1[k]? = some t) : M'.1[k]? = some t := by rw [w.1]; exact h
theorem wr_mP {L : List Nat} {M M' : Mem} (w : Wr L M M') {k j : Nat} {q : Option Nat} (h : mP M k j = q) : mP M' k j = q := by rw [w.2.2.1]; exact h
theorem wr_mI {L : List Nat} {M M' : Mem} (w : Wr L M M') {k : Nat} (h : k ∉ L) : mI M' k = mI M k := w.2.2.2.2 k h
