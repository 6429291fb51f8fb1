/-! ===== the system's memory, in numbers: cell k lies at B0 + k ===== -/
/-- what a cell is: below 100 an object of that class of vwCl (0 behind it); 100 int[], 101 byte[], 102 boolean[], 103 long[], 104 State[] with its length; 200: of no account -/
abbrev mT : Type := Nat × Nat
/-- the cells' kinds; ints, longs and references by cell and place; slots used -/
abbrev Mem : Type := List mT × (Nat → Nat → Int32) × (Nat → Nat → Int64) × (Nat → Nat → Option Nat) × Nat
/-- classes and slots by number, array classes by kind, B0, the String constants' addresses and their bytes' -/
abbrev GG : Type := va_G × (Nat → ClassId) × Nat × (Nat → Nat) × (Nat → Nat)
def mI (M : Mem) : Nat → Nat → Int32 := M.2.1
def mL (M : Mem) : Nat → Nat → Int64 := M.2.2.1
def mP (M : Mem) : Nat → Nat → Option Nat := M.2.2.2.1
def mS (M : Mem) : Nat := M.2.2.2.2
/-- a value of ours as the machine has it -/
def re (G : GG) : Value → Value
  | .ref k => .ref (G.2.2.1 + k)
  | .retAddr k => .ref (G.2.2.2.1 k)
  | .int x => .int x
  | .long x => .long x
  | .float x => .float x
  | .double x => .double x
  | .null => .null
theorem re_cat (G : GG) (v : Value) : (re G v).category = v.category := by cases v <;> rfl
def rq : Option Nat → Value
  | none => .null
  | some k => .ref k
/-- the kinds of the fields: 0 ints, 1 longs, 2 references -/
def ck : List (List Nat) := [[2, 0, 0], [2, 2, 2, 0], [0, 0, 0, 2, 2, 2, 2, 2, 2, 2, 2, 2, 2, 2], [2, 0, 0, 0, 0, 0, 0, 0, 0, 2, 0, 0], [2], [2, 2, 2, 0], [0, 0, 0, 2, 2, 2, 2, 2, 2], [2, 2, 2], [2, 0, 2, 2, 2, 2, 2, 2, 0, 2, 2, 2, 2, 2, 2, 2], [0, 0, 0, 0, 0, 0, 2, 2, 2, 2, 2, 2, 0, 0, 0, 2, 0, 0, 0, 0, 0, 0, 0, 1, 0, 0, 0, 0, 0, 0, 0, 0, 0, 2, 2, 2, 2, 2, 2, 2, 2, 2, 2, 0, 2, 2, 0, 2, 2, 2, 2, 0, 2, 2, 2, 0, 0, 0, 0, 2, 2, 2]]
def kdf (t : mT) (j : Nat) : Nat := if t.1 < 100 then (ck.getD t.1 []).getD j 0 else if t.1 < 103 then 0 else if t.1 = 103 then 1 else 2
def cv (M : Mem) (k : Nat) (t : mT) (j : Nat) : Value := if kdf t j = 0 then .int (mI M k j) else if kdf t j = 1 then .long (mL M k j) else rq (mP M k j)
def cellAt (G : GG) (M : Mem) (k : Nat) (t : mT) (H : Heap) : Prop :=
  if t.1 < 100 then ∃ r : vw_C, vwCl[t.1]? = some r ∧ t_OB (G.2.2.1 + k) (G.1.1 t.1) r.2.2 (G.1.2 t.1) H (fun j => re G (cv M k t j)) else H[G.2.2.1 + k]? = some (arrV (G.2.1 t.1) t.2 (fun j => re G (cv M k t j)))
def HC (G : GG) (M : Mem) (H : Heap) : Prop := H.size = G.2.2.1 + M.1.length ∧ ∀ (k : Nat) (t : mT), M.1[k]? = some t → t.1 < 200 → cellAt G M k t H
def gty (G : GG) : List (ClassId × FieldType) := [(G.2.1 100, .int), (G.2.1 101, .byte), (G.2.1 102, .boolean), (G.2.1 103, .long), (G.2.1 104, .object "HornHouses$State")]
def gA (G : GG) : Nat → Prop := fun q => G.2.2.1 ≤ q
/-- a row of a table of rows, set anew -/
def rw1 {β : Type} (f : Nat → Nat → β) (a : Nat) (g : Nat → β) : Nat → Nat → β := fun x => if x = a then g else f x
def upg {β : Type} (f : Nat → β) (k : Nat) (x : β) : Nat → β := fun j => if j = k then x else f j
def stI (M : Mem) (a j : Nat) (v : Int32) : Mem := (M.1, rw1 M.2.1 a (upg (M.2.1 a) j v), M.2.2)
def stL (M : Mem) (a j : Nat) (v : Int64) : Mem := (M.1, M.2.1, rw1 M.2.2.1 a (upg (M.2.2.1 a) j v), M.2.2.2)
def stP (M : Mem) (a j : Nat) (v : Option Nat) : Mem := (M.1, M.2.1, M.2.2.1, rw1 M.2.2.2.1 a (upg (M.2.2.2.1 a) j v), M.2.2.2.2)
/-- so many cells, so many slots at most -/
def CLM : Nat := 601024
def SLM : Nat := 7293034
def nwM (M : Mem) (t : mT) (n : Nat) : Mem := (M.1 ++ [t], rw1 M.2.1 M.1.length (fun _ => 0), rw1 M.2.2.1 M.1.length (fun _ => 0), rw1 M.2.2.2.1 M.1.length (fun _ => none), M.2.2.2.2 + n)
-- what the functions below are made of
def gI (M : Mem) (ci k j : Nat) : Option Int32 := if M.1[k]? = some (ci, 0) then some (mI M k j) else none
def gL (M : Mem) (ci k j : Nat) : Option Int64 := if M.1[k]? = some (ci, 0) then some (mL M k j) else none
def gQ (M : Mem) (ci k j : Nat) : Option (Option Nat) := if M.1[k]? = some (ci, 0) then some (mP M k j) else none
def gP (M : Mem) (ci k j : Nat) : Option Nat := if M.1[k]? = some (ci, 0) then mP M k j else none
def pI (M : Mem) (ci k j : Nat) (v : Int32) : Option Mem := if M.1[k]? = some (ci, 0) then some (stI M k j v) else none
def pL (M : Mem) (ci k j : Nat) (v : Int64) : Option Mem := if M.1[k]? = some (ci, 0) then some (stL M k j v) else none
def pQ (M : Mem) (ci k j : Nat) (v : Option Nat) : Option Mem := if M.1[k]? = some (ci, 0) then some (stP M k j v) else none
def nz (v : Int32) : Int32 := v &&& 1
def nby (v : Int32) : Int32 := v.toInt8.toInt32
def pZ (M : Mem) (ci k j : Nat) (v : Int32) : Option Mem := if v = 0 ∨ v = 1 then pI M ci k j v else none
/-- the length of an array of a kind -/
def tl (M : Mem) (kd k : Nat) : Option Nat := match M.1[k]? with
  | some t => if t.1 = kd then some t.2 else none
  | none => none
def alen (M : Mem) (kd k : Nat) : Option Int32 := (tl M kd k).map Int32.ofNat
def aI (M : Mem) (kd k : Nat) (i : Int32) : Option Int32 := (tl M kd k).bind fun n => if i < 0 ∨ n ≤ i.toNatClampNeg then none else some (mI M k i.toNatClampNeg)
def aL (M : Mem) (k : Nat) (i : Int32) : Option Int64 := (tl M 103 k).bind fun n => if i < 0 ∨ n ≤ i.toNatClampNeg then none else some (mL M k i.toNatClampNeg)
def aQ (M : Mem) (k : Nat) (i : Int32) : Option (Option Nat) := (tl M 104 k).bind fun n => if i < 0 ∨ n ≤ i.toNatClampNeg then none else some (mP M k i.toNatClampNeg)
def sI (M : Mem) (kd k : Nat) (i v : Int32) : Option Mem := (tl M kd k).bind fun n => if i < 0 ∨ n ≤ i.toNatClampNeg then none else some (stI M k i.toNatClampNeg v)
def sL (M : Mem) (k : Nat) (i : Int32) (v : Int64) : Option Mem := (tl M 103 k).bind fun n => if i < 0 ∨ n ≤ i.toNatClampNeg then none else some (stL M k i.toNatClampNeg v)
def sP (M : Mem) (k : Nat) (i : Int32) (v : Nat) : Option Mem := (tl M 104 k).bind fun n => if (i < 0 ∨ n ≤ i.toNatClampNeg) ∨ M.1[v]? ≠ some (6, 0) then none else some (stP M k i.toNatClampNeg (some v))
def nO (M : Mem) (ci n : Nat) : Option Mem := if M.1.length + 1 ≤ CLM ∧ mS M + n ≤ SLM then some (nwM M (ci, 0) n) else none
def nA (M : Mem) (kd : Nat) (i : Int32) : Option Mem := if ¬ i < 0 ∧ M.1.length + 1 ≤ CLM ∧ mS M + i.toNatClampNeg ≤ SLM then some (nwM M (kd, i.toNatClampNeg) i.toNatClampNeg) else none
/-- a thing thrown: a cell of no account -/
def nX (M : Mem) : Option Mem := if M.1.length + 1 ≤ CLM ∧ mS M + 6 ≤ SLM then some (nwM M (200, 0) 6) else none
theorem tl_some {M : Mem} {kd k n : Nat} (h : tl M kd k = some n) : M.1[k]? = some (kd, n) := by
  unfold tl at h
  cases ht : M.1[k]? with
  | none => simp [ht] at h
  | some t =>
    obtain ⟨a, b⟩ := t
    simp only [ht] at h
    split at h
    · rename_i e; cases h; rw [← e]
    · cases h
theorem cv_stI {M : Mem} {a j : Nat} {v : Int32} {k i : Nat} {t : mT} (h : kdf t j = 0 ∨ k ≠ a) : cv (stI M a j v) k t i = if k = a ∧ i = j then .int v else cv M k t i := by
  unfold cv stI mI mL mP
  by_cases hk : k = a
  · subst hk
    by_cases hi : i = j
    · subst hi
      rcases h with h | h
      · simp [h, rw1, upg]
      · exact absurd rfl h
    · simp [rw1, upg, hi]
  · simp [rw1, hk]
theorem cv_stL {M : Mem} {a j : Nat} {v : Int64} {k i : Nat} {t : mT} (h : kdf t j = 1 ∨ k ≠ a) : cv (stL M a j v) k t i = if k = a ∧ i = j then .long v else cv M k t i := by
  unfold cv stL mI mL mP
  by_cases hk : k = a
  · subst hk
    by_cases hi : i = j
    · subst hi
      rcases h with h | h
      · simp [h, rw1, upg]
      · exact absurd rfl h
    · simp [rw1, upg, hi]
  · simp [rw1, hk]
theorem cv_stP {M : Mem} {a j : Nat} {v : Option Nat} {k i : Nat} {t : mT} (h : kdf t j = 2 ∨ k ≠ a) : cv (stP M a j v) k t i = if k = a ∧ i = j then rq v else cv M k t i := by
  unfold cv stP mI mL mP
  by_cases hk : k = a
  · subst hk
    by_cases hi : i = j
    · subst hi
      rcases h with h | h
      · simp [h, rw1, upg]
      · exact absurd rfl h
    · simp [rw1, upg, hi]
  · simp [rw1, hk]
theorem cellAt.kept {G : GG} {M M' : Mem} {k : Nat} {t : mT} {H H' : Heap} (h : cellAt G M k t H) (hq : H'[G.2.2.1 + k]? = H[G.2.2.1 + k]?) (hv : ∀ j, cv M' k t j = cv M k t j) : cellAt G M' k t H' := by
  unfold cellAt at h ⊢
  have e : (fun j => re G (cv M' k t j)) = fun j => re G (cv M k t j) := funext fun j => by rw [hv j]
  rw [e]
  split at h
  · rename_i h1
    rw [if_pos h1]
    obtain ⟨r, h2, h3⟩ := h
    exact ⟨r, h2, h3.kept hq⟩
  · rename_i h1
    rw [if_neg h1, hq]
    exact h
/-- one place of one cell is written -/
theorem HC.store {G : GG} {M M' : Mem} {a j : Nat} {t : mT} {v : Value} {H H' : Heap} (h : HC G M H) (ht : M.1[a]? = some t) (h200 : t.1 < 200) (e1 : M'.1 = M.1)
    (hv : ∀ (k i : Nat) (t' : mT), (k = a → t' = t) → cv M' k t' i = if k = a ∧ i = j then v else cv M k t' i) (hsz : H'.size = H.size) (hoq : ∀ q, q ≠ G.2.2.1 + a → H'[q]? = H[q]?)
    (hc : cellAt G M' a t H') : HC G M' H' := by
  refine ⟨by rw [hsz, e1]; exact h.1, fun k t' hk hk2 => ?_⟩
  rw [e1] at hk
  by_cases hka : k = a
  · subst hka
    cases Option.some.inj (ht.symm.trans hk)
    exact hc
  · refine (h.2 k t' hk hk2).kept (hoq _ (by omega)) fun i => ?_
    rw [hv k i t' (fun h => absurd h hka), if_neg (fun h => hka h.1)]
theorem HC.push {G : GG} {M M' : Mem} {t : mT} {H H' : Heap} (h : HC G M H) (e1 : M'.1 = M.1 ++ [t]) (hv : ∀ (k i : Nat) (t' : mT), k ≠ M.1.length → cv M' k t' i = cv M k t' i) (hsz : H'.size = H.size + 1) (hoq : ∀ q, q < H.size → H'[q]? = H[q]?)
    (hc : t.1 < 200 → cellAt G M' M.1.length t H') : HC G M' H' := by
  refine ⟨by rw [hsz, e1, h.1, List.length_append]; rfl, fun k t' hk hk2 => ?_⟩
  rw [e1] at hk
  by_cases hka : k < M.1.length
  · rw [List.getElem?_append_left hka] at hk
    exact (h.2 k t' hk hk2).kept (hoq _ (by rw [h.1]; omega)) fun i => hv k i t' (by omega)
  · rw [List.getElem?_append_right (by omega)] at hk
    have hz : k - M.1.length < 1 := (List.getElem?_eq_some_iff.mp hk).1
    have hk0 : k = M.1.length := by omega
    rw [show k - M.1.length = 0 by omega] at hk
    cases hk
    rw [hk0]
    exact hc hk2
theorem cv_nw {M : Mem} {t t' : mT} {n k i : Nat} (h : k ≠ M.1.length) : cv (nwM M t n) k t' i = cv M k t' i := by
  unfold cv nwM mI mL mP
  simp [rw1, h]
