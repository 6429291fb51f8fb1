/-! ===== the start ===== -/
/-- what is known of a new memory: cells, slots, pointers, ints; cells of which no ints are known -/
abbrev AS : Type := List mT × Nat × List (Nat × Nat × Option Nat) × List (Nat × Nat × Int32) × List Nat
def lkP : List (Nat × Nat × Option Nat) → Nat → Nat → Option Nat
  | [], _, _ => none
  | e :: r, x, y => if x = e.1 ∧ y = e.2.1 then e.2.2 else lkP r x y
def lkI : List (Nat × Nat × Int32) → Nat → Nat → Int32
  | [], _, _ => 0
  | e :: r, x, y => if x = e.1 ∧ y = e.2.1 then e.2.2 else lkI r x y
def Rel (M : Mem) (a : AS) : Prop := M.1 = a.1 ∧ mS M = a.2.1 ∧ (∀ k j, k < a.1.length → mP M k j = lkP a.2.2.1 k j) ∧ (∀ k j, k < a.1.length → k ∉ a.2.2.2.2 → mI M k j = lkI a.2.2.2.1 k j) ∧ (∀ e ∈ a.2.2.1, e.1 < a.1.length) ∧ ∀ e ∈ a.2.2.2.1, e.1 < a.1.length
theorem lkP_new {P : List (Nat × Nat × Option Nat)} {n j : Nat} (h : ∀ e ∈ P, e.1 < n) : lkP P n j = none := by
  induction P with
  | nil => rfl
  | cons e r ih =>
    unfold lkP
    rw [if_neg (fun z => by have := h e List.mem_cons_self; omega)]
    exact ih fun x hx => h x (List.mem_cons_of_mem _ hx)
theorem lkI_new {P : List (Nat × Nat × Int32)} {n j : Nat} (h : ∀ e ∈ P, e.1 < n) : lkI P n j = 0 := by
  induction P with
  | nil => rfl
  | cons e r ih =>
    unfold lkI
    rw [if_neg (fun z => by have := h e List.mem_cons_self; omega)]
    exact ih fun x hx => h x (List.mem_cons_of_mem _ hx)
section
variable {M : Mem} {a : AS}
theorem R_nw {t : mT} {n : Nat} (h : Rel M a) : Rel (nwM M t n) (a.1 ++ [t], a.2.1 + n, a.2.2) := by
  obtain ⟨h1, h2, h3, h4, h5, h6⟩ := h
  have hl : M.1.length = a.1.length := by rw [h1]
  refine ⟨by show M.1 ++ [t] = _; rw [h1], by show mS M + n = _; rw [h2], fun k j hk => ?_, fun k j hk hu => ?_, fun e he => ?_, fun e he => ?_⟩
  · simp at hk
    by_cases c : k < M.1.length
    · rw [mP_nw c]; exact h3 k j (by omega)
    · have : k = M.1.length := by omega
      rw [this, mP_nw', hl]; exact (lkP_new h5).symm
  · simp at hk
    by_cases c : k < M.1.length
    · rw [mI_nw c]; exact h4 k j (by omega) hu
    · have : k = M.1.length := by omega
      rw [this, mI_nw', hl]; exact (lkI_new h6).symm
  · have := h5 e he; simp; omega
  · have := h6 e he; simp; omega
theorem R_nO {ci n : Nat} (h : Rel M a) (hc : (Nat.ble (a.1.length + 1) CLM && Nat.ble (a.2.1 + n) SLM) = true) : ∃ M', nO M ci n = some M' ∧ Rel M' (a.1 ++ [(ci, 0)], a.2.1 + n, a.2.2) := by
  rw [Bool.and_eq_true] at hc
  have c1 := Nat.le_of_ble_eq_true hc.1
  have c2 := Nat.le_of_ble_eq_true hc.2
  exact ⟨_, nO_t (by rw [h.1]; exact c1) (by rw [h.2.1]; exact c2), R_nw h⟩
theorem R_nA {kd n : Nat} {x : Int32} (hx : x = nI n) (hn : n < 2 ^ 31) (h : Rel M a) (hc : (Nat.ble (a.1.length + 1) CLM && Nat.ble (a.2.1 + n) SLM) = true) : ∃ M', nA M kd x = some M' ∧ Rel M' (a.1 ++ [(kd, n)], a.2.1 + n, a.2.2) := by
  subst hx
  rw [Bool.and_eq_true] at hc
  have c1 := Nat.le_of_ble_eq_true hc.1
  have c2 := Nat.le_of_ble_eq_true hc.2
  exact ⟨_, nA_t hn (by rw [h.1]; exact c1) (by rw [h.2.1]; exact c2), R_nw h⟩
theorem R_pI {ci k j : Nat} {v : Int32} (h : Rel M a) (ht : a.1[k]? = some (ci, 0)) : ∃ M', pI M ci k j v = some M' ∧ Rel M' (a.1, a.2.1, a.2.2.1, (k, j, v) :: a.2.2.2.1, a.2.2.2.2) := by
  have hk : k < a.1.length := (List.getElem?_eq_some_iff.mp ht).1
  refine ⟨stI M k j v, pI_t (by rw [h.1]; exact ht), h.1, h.2.1, h.2.2.1, fun x y hx hu => ?_, h.2.2.2.2.1, fun e he => ?_⟩
  · rw [mI_st]
    show _ = (if x = k ∧ y = j then v else lkI a.2.2.2.1 x y)
    split
    · rfl
    · exact h.2.2.2.1 x y hx hu
  · rcases List.mem_cons.mp he with rfl | he
    · exact hk
    · exact h.2.2.2.2.2 e he
theorem R_pZ {ci k j : Nat} {v : Int32} (h : Rel M a) (ht : a.1[k]? = some (ci, 0)) (hv : v = 0 ∨ v = 1) : ∃ M', pZ M ci k j v = some M' ∧ Rel M' (a.1, a.2.1, a.2.2.1, (k, j, v) :: a.2.2.2.1, a.2.2.2.2) := by
  obtain ⟨M', e, r⟩ := R_pI (ci := ci) (j := j) (v := v) h ht
  exact ⟨M', by unfold pZ; rw [if_pos hv]; exact e, r⟩
theorem R_pQ {ci k j : Nat} {v : Option Nat} (h : Rel M a) (ht : a.1[k]? = some (ci, 0)) : ∃ M', pQ M ci k j v = some M' ∧ Rel M' (a.1, a.2.1, (k, j, v) :: a.2.2.1, a.2.2.2.1, a.2.2.2.2) := by
  have hk : k < a.1.length := (List.getElem?_eq_some_iff.mp ht).1
  refine ⟨stP M k j v, pQ_t (by rw [h.1]; exact ht), h.1, h.2.1, fun x y hx => ?_, h.2.2.2.1, fun e he => ?_, h.2.2.2.2.2⟩
  · rw [mP_stP]
    show _ = (if x = k ∧ y = j then v else lkP a.2.2.1 x y)
    split
    · rfl
    · exact h.2.2.1 x y hx
  · rcases List.mem_cons.mp he with rfl | he
    · exact hk
    · exact h.2.2.2.2.1 e he
theorem R_gP {ci k j v : Nat} (h : Rel M a) (ht : a.1[k]? = some (ci, 0)) (hv : lkP a.2.2.1 k j = some v) : gP M ci k j = some v :=
  gP_t (by rw [h.1]; exact ht) ((h.2.2.1 k j (List.getElem?_eq_some_iff.mp ht).1).trans hv)
theorem R_fill {k n : Nat} {v : Int32} (h : Rel M a) (ht : a.1[k]? = some (100, n)) (hn : n < 2 ^ 31) : ∃ M', F_J7_fill_53178 k v M = some M' ∧ Rel M' (a.1, a.2.1, a.2.2.1, a.2.2.2.1, k :: a.2.2.2.2) := by
  obtain ⟨f, e, -⟩ := F_fill (M := M) (v := v) (by rw [h.1]; exact ht) hn
  refine ⟨_, e, h.1, h.2.1, h.2.2.1, fun x y hx hu => ?_, h.2.2.2.2.1, h.2.2.2.2.2⟩
  rw [mI_stRne (fun z => hu (by rw [z]; exact List.mem_cons_self))]
  exact h.2.2.2.1 x y hx (fun z => hu (List.mem_cons_of_mem _ z))
end
def as0 : AS := ([(8, 0)], 16, [], [], [])
def as1 : AS := (as0.1 ++ [(3, 0)], as0.2.1 + 12, as0.2.2)
def as2 : AS := (as1.1 ++ [(101, 700)], as1.2.1 + 700, as1.2.2)
def as3 : AS := (as2.1, as2.2.1, (1, 0, some 2) :: as2.2.2.1, as2.2.2.2.1, as2.2.2.2.2)
def as4 : AS := (as3.1, as3.2.1, as3.2.2.1, (1, 1, 0) :: as3.2.2.2.1, as3.2.2.2.2)
def as5 : AS := (as4.1, as4.2.1, as4.2.2.1, (1, 2, 0) :: as4.2.2.2.1, as4.2.2.2.2)
def as6 : AS := (as5.1, as5.2.1, as5.2.2.1, (1, 3, 0) :: as5.2.2.2.1, as5.2.2.2.2)
def as7 : AS := (as6.1, as6.2.1, as6.2.2.1, (1, 4, -1) :: as6.2.2.2.1, as6.2.2.2.2)
def as8 : AS := (as7.1, as7.2.1, as7.2.2.1, (1, 5, 0) :: as7.2.2.2.1, as7.2.2.2.2)
def as9 : AS := (as8.1, as8.2.1, as8.2.2.1, (1, 6, 0) :: as8.2.2.2.1, as8.2.2.2.2)
def as10 : AS := (as9.1, as9.2.1, as9.2.2.1, (1, 7, 0) :: as9.2.2.2.1, as9.2.2.2.2)
def as11 : AS := (as10.1, as10.2.1, as10.2.2.1, (1, 8, 0) :: as10.2.2.2.1, as10.2.2.2.2)
def as12 : AS := (as11.1 ++ [(100, 700)], as11.2.1 + 700, as11.2.2)
def as13 : AS := (as12.1, as12.2.1, (1, 9, some 3) :: as12.2.2.1, as12.2.2.2.1, as12.2.2.2.2)
def as14 : AS := (as13.1, as13.2.1, as13.2.2.1, (1, 10, 0) :: as13.2.2.2.1, as13.2.2.2.2)
def as15 : AS := (as14.1, as14.2.1, as14.2.2.1, (1, 11, 0) :: as14.2.2.2.1, as14.2.2.2.2)
def as16 : AS := (as15.1, as15.2.1, (0, 0, some 1) :: as15.2.2.1, as15.2.2.2.1, as15.2.2.2.2)
def as17 : AS := (as16.1, as16.2.1, as16.2.2.1, (0, 1, -1) :: as16.2.2.2.1, as16.2.2.2.2)
def as18 : AS := (as17.1 ++ [(2, 0)], as17.2.1 + 14, as17.2.2)
def as19 : AS := (as18.1, as18.2.1, as18.2.2.1, (4, 0, 0) :: as18.2.2.2.1, as18.2.2.2.2)
def as20 : AS := (as19.1, as19.2.1, as19.2.2.1, (4, 1, 0) :: as19.2.2.2.1, as19.2.2.2.2)
def as21 : AS := (as20.1, as20.2.1, as20.2.2.1, (4, 2, 0) :: as20.2.2.2.1, as20.2.2.2.2)
def as22 : AS := (as21.1 ++ [(100, 8)], as21.2.1 + 8, as21.2.2)
def as23 : AS := (as22.1, as22.2.1, (4, 3, some 5) :: as22.2.2.1, as22.2.2.2.1, as22.2.2.2.2)
def as24 : AS := (as23.1 ++ [(100, 8)], as23.2.1 + 8, as23.2.2)
def as25 : AS := (as24.1, as24.2.1, (4, 4, some 6) :: as24.2.2.1, as24.2.2.2.1, as24.2.2.2.2)
def as26 : AS := (as25.1 ++ [(100, 8)], as25.2.1 + 8, as25.2.2)
def as27 : AS := (as26.1, as26.2.1, (4, 5, some 7) :: as26.2.2.1, as26.2.2.2.1, as26.2.2.2.2)
def as28 : AS := (as27.1 ++ [(100, 8)], as27.2.1 + 8, as27.2.2)
def as29 : AS := (as28.1, as28.2.1, (4, 6, some 8) :: as28.2.2.1, as28.2.2.2.1, as28.2.2.2.2)
def as30 : AS := (as29.1 ++ [(100, 8)], as29.2.1 + 8, as29.2.2)
def as31 : AS := (as30.1, as30.2.1, (4, 7, some 9) :: as30.2.2.1, as30.2.2.2.1, as30.2.2.2.2)
def as32 : AS := (as31.1 ++ [(100, 8)], as31.2.1 + 8, as31.2.2)
def as33 : AS := (as32.1, as32.2.1, (4, 8, some 10) :: as32.2.2.1, as32.2.2.2.1, as32.2.2.2.2)
def as34 : AS := (as33.1 ++ [(100, 8)], as33.2.1 + 8, as33.2.2)
def as35 : AS := (as34.1, as34.2.1, (4, 9, some 11) :: as34.2.2.1, as34.2.2.2.1, as34.2.2.2.2)
def as36 : AS := (as35.1, as35.2.1, (4, 10, none) :: as35.2.2.1, as35.2.2.2.1, as35.2.2.2.2)
def as37 : AS := (as36.1, as36.2.1, (4, 11, none) :: as36.2.2.1, as36.2.2.2.1, as36.2.2.2.2)
def as38 : AS := (as37.1 ++ [(100, 7)], as37.2.1 + 7, as37.2.2)
def as39 : AS := (as38.1, as38.2.1, (4, 12, some 12) :: as38.2.2.1, as38.2.2.2.1, as38.2.2.2.2)
def as40 : AS := (as39.1 ++ [(100, 32)], as39.2.1 + 32, as39.2.2)
def as41 : AS := (as40.1, as40.2.1, (4, 13, some 13) :: as40.2.2.1, as40.2.2.2.1, as40.2.2.2.2)
def as42 : AS := (as41.1, as41.2.1, (0, 2, some 4) :: as41.2.2.1, as41.2.2.2.1, as41.2.2.2.2)
def as43 : AS := (as42.1 ++ [(2, 0)], as42.2.1 + 14, as42.2.2)
def as44 : AS := (as43.1, as43.2.1, as43.2.2.1, (14, 0, 0) :: as43.2.2.2.1, as43.2.2.2.2)
def as45 : AS := (as44.1, as44.2.1, as44.2.2.1, (14, 1, 0) :: as44.2.2.2.1, as44.2.2.2.2)
def as46 : AS := (as45.1, as45.2.1, as45.2.2.1, (14, 2, 0) :: as45.2.2.2.1, as45.2.2.2.2)
def as47 : AS := (as46.1 ++ [(100, 8)], as46.2.1 + 8, as46.2.2)
def as48 : AS := (as47.1, as47.2.1, (14, 3, some 15) :: as47.2.2.1, as47.2.2.2.1, as47.2.2.2.2)
def as49 : AS := (as48.1 ++ [(100, 8)], as48.2.1 + 8, as48.2.2)
def as50 : AS := (as49.1, as49.2.1, (14, 4, some 16) :: as49.2.2.1, as49.2.2.2.1, as49.2.2.2.2)
def as51 : AS := (as50.1 ++ [(100, 8)], as50.2.1 + 8, as50.2.2)
def as52 : AS := (as51.1, as51.2.1, (14, 5, some 17) :: as51.2.2.1, as51.2.2.2.1, as51.2.2.2.2)
def as53 : AS := (as52.1 ++ [(100, 8)], as52.2.1 + 8, as52.2.2)
def as54 : AS := (as53.1, as53.2.1, (14, 6, some 18) :: as53.2.2.1, as53.2.2.2.1, as53.2.2.2.2)
def as55 : AS := (as54.1 ++ [(100, 8)], as54.2.1 + 8, as54.2.2)
def as56 : AS := (as55.1, as55.2.1, (14, 7, some 19) :: as55.2.2.1, as55.2.2.2.1, as55.2.2.2.2)
def as57 : AS := (as56.1 ++ [(100, 8)], as56.2.1 + 8, as56.2.2)
def as58 : AS := (as57.1, as57.2.1, (14, 8, some 20) :: as57.2.2.1, as57.2.2.2.1, as57.2.2.2.2)
def as59 : AS := (as58.1 ++ [(100, 8)], as58.2.1 + 8, as58.2.2)
def as60 : AS := (as59.1, as59.2.1, (14, 9, some 21) :: as59.2.2.1, as59.2.2.2.1, as59.2.2.2.2)
def as61 : AS := (as60.1, as60.2.1, (14, 10, none) :: as60.2.2.1, as60.2.2.2.1, as60.2.2.2.2)
def as62 : AS := (as61.1, as61.2.1, (14, 11, none) :: as61.2.2.1, as61.2.2.2.1, as61.2.2.2.2)
def as63 : AS := (as62.1 ++ [(100, 7)], as62.2.1 + 7, as62.2.2)
def as64 : AS := (as63.1, as63.2.1, (14, 12, some 22) :: as63.2.2.1, as63.2.2.2.1, as63.2.2.2.2)
def as65 : AS := (as64.1 ++ [(100, 32)], as64.2.1 + 32, as64.2.2)
def as66 : AS := (as65.1, as65.2.1, (14, 13, some 23) :: as65.2.2.1, as65.2.2.2.1, as65.2.2.2.2)
def as67 : AS := (as66.1, as66.2.1, (0, 3, some 14) :: as66.2.2.1, as66.2.2.2.1, as66.2.2.2.2)
def as68 : AS := (as67.1 ++ [(6, 0)], as67.2.1 + 9, as67.2.2)
def as69 : AS := (as68.1, as68.2.1, as68.2.2.1, (24, 0, 0) :: as68.2.2.2.1, as68.2.2.2.2)
def as70 : AS := (as69.1, as69.2.1, as69.2.2.1, (24, 1, 0) :: as69.2.2.2.1, as69.2.2.2.2)
def as71 : AS := (as70.1, as70.2.1, as70.2.2.1, (24, 2, 0) :: as70.2.2.2.1, as70.2.2.2.2)
def as72 : AS := (as71.1 ++ [(100, 8)], as71.2.1 + 8, as71.2.2)
def as73 : AS := (as72.1, as72.2.1, (24, 3, some 25) :: as72.2.2.1, as72.2.2.2.1, as72.2.2.2.2)
def as74 : AS := (as73.1 ++ [(100, 8)], as73.2.1 + 8, as73.2.2)
def as75 : AS := (as74.1, as74.2.1, (24, 4, some 26) :: as74.2.2.1, as74.2.2.2.1, as74.2.2.2.2)
def as76 : AS := (as75.1 ++ [(100, 8)], as75.2.1 + 8, as75.2.2)
def as77 : AS := (as76.1, as76.2.1, (24, 5, some 27) :: as76.2.2.1, as76.2.2.2.1, as76.2.2.2.2)
def as78 : AS := (as77.1 ++ [(100, 8)], as77.2.1 + 8, as77.2.2)
def as79 : AS := (as78.1, as78.2.1, (24, 6, some 28) :: as78.2.2.1, as78.2.2.2.1, as78.2.2.2.2)
def as80 : AS := (as79.1 ++ [(100, 8)], as79.2.1 + 8, as79.2.2)
def as81 : AS := (as80.1, as80.2.1, (24, 7, some 29) :: as80.2.2.1, as80.2.2.2.1, as80.2.2.2.2)
def as82 : AS := (as81.1 ++ [(100, 8)], as81.2.1 + 8, as81.2.2)
def as83 : AS := (as82.1, as82.2.1, (24, 8, some 30) :: as82.2.2.1, as82.2.2.2.1, as82.2.2.2.2)
def as84 : AS := (as83.1, as83.2.1, as83.2.2.1, as83.2.2.2.1, 27 :: as83.2.2.2.2)
def as85 : AS := (as84.1, as84.2.1, as84.2.2.1, as84.2.2.2.1, 29 :: as84.2.2.2.2)
def as86 : AS := (as85.1, as85.2.1, (0, 4, some 24) :: as85.2.2.1, as85.2.2.2.1, as85.2.2.2.2)
def as87 : AS := (as86.1 ++ [(6, 0)], as86.2.1 + 9, as86.2.2)
def as88 : AS := (as87.1, as87.2.1, as87.2.2.1, (31, 0, 0) :: as87.2.2.2.1, as87.2.2.2.2)
def as89 : AS := (as88.1, as88.2.1, as88.2.2.1, (31, 1, 0) :: as88.2.2.2.1, as88.2.2.2.2)
def as90 : AS := (as89.1, as89.2.1, as89.2.2.1, (31, 2, 0) :: as89.2.2.2.1, as89.2.2.2.2)
def as91 : AS := (as90.1 ++ [(100, 8)], as90.2.1 + 8, as90.2.2)
def as92 : AS := (as91.1, as91.2.1, (31, 3, some 32) :: as91.2.2.1, as91.2.2.2.1, as91.2.2.2.2)
def as93 : AS := (as92.1 ++ [(100, 8)], as92.2.1 + 8, as92.2.2)
def as94 : AS := (as93.1, as93.2.1, (31, 4, some 33) :: as93.2.2.1, as93.2.2.2.1, as93.2.2.2.2)
def as95 : AS := (as94.1 ++ [(100, 8)], as94.2.1 + 8, as94.2.2)
def as96 : AS := (as95.1, as95.2.1, (31, 5, some 34) :: as95.2.2.1, as95.2.2.2.1, as95.2.2.2.2)
def as97 : AS := (as96.1 ++ [(100, 8)], as96.2.1 + 8, as96.2.2)
def as98 : AS := (as97.1, as97.2.1, (31, 6, some 35) :: as97.2.2.1, as97.2.2.2.1, as97.2.2.2.2)
def as99 : AS := (as98.1 ++ [(100, 8)], as98.2.1 + 8, as98.2.2)
def as100 : AS := (as99.1, as99.2.1, (31, 7, some 36) :: as99.2.2.1, as99.2.2.2.1, as99.2.2.2.2)
def as101 : AS := (as100.1 ++ [(100, 8)], as100.2.1 + 8, as100.2.2)
def as102 : AS := (as101.1, as101.2.1, (31, 8, some 37) :: as101.2.2.1, as101.2.2.2.1, as101.2.2.2.2)
def as103 : AS := (as102.1, as102.2.1, as102.2.2.1, as102.2.2.2.1, 34 :: as102.2.2.2.2)
def as104 : AS := (as103.1, as103.2.1, as103.2.2.1, as103.2.2.2.1, 36 :: as103.2.2.2.2)
def as105 : AS := (as104.1, as104.2.1, (0, 5, some 31) :: as104.2.2.1, as104.2.2.2.1, as104.2.2.2.2)
def as106 : AS := (as105.1 ++ [(0, 0)], as105.2.1 + 3, as105.2.2)
def as107 : AS := (as106.1 ++ [(104, 40)], as106.2.1 + 40, as106.2.2)
def as108 : AS := (as107.1, as107.2.1, (38, 0, some 39) :: as107.2.2.1, as107.2.2.2.1, as107.2.2.2.2)
def as109 : AS := (as108.1, as108.2.1, as108.2.2.1, (38, 1, 0) :: as108.2.2.2.1, as108.2.2.2.2)
def as110 : AS := (as109.1, as109.2.1, as109.2.2.1, (38, 2, 0) :: as109.2.2.2.1, as109.2.2.2.2)
def as111 : AS := (as110.1, as110.2.1, (0, 6, some 38) :: as110.2.2.1, as110.2.2.2.1, as110.2.2.2.2)
def as112 : AS := (as111.1 ++ [(5, 0)], as111.2.1 + 4, as111.2.2)
def as113 : AS := (as112.1 ++ [(100, 8)], as112.2.1 + 8, as112.2.2)
def as114 : AS := (as113.1, as113.2.1, (40, 0, some 41) :: as113.2.2.1, as113.2.2.2.1, as113.2.2.2.2)
def as115 : AS := (as114.1 ++ [(100, 8)], as114.2.1 + 8, as114.2.2)
def as116 : AS := (as115.1, as115.2.1, (40, 1, some 42) :: as115.2.2.1, as115.2.2.2.1, as115.2.2.2.2)
def as117 : AS := (as116.1 ++ [(100, 8)], as116.2.1 + 8, as116.2.2)
def as118 : AS := (as117.1, as117.2.1, (40, 2, some 43) :: as117.2.2.1, as117.2.2.2.1, as117.2.2.2.2)
def as119 : AS := (as118.1, as118.2.1, as118.2.2.1, (40, 3, 0) :: as118.2.2.2.1, as118.2.2.2.2)
def as120 : AS := (as119.1, as119.2.1, (0, 7, some 40) :: as119.2.2.1, as119.2.2.2.1, as119.2.2.2.2)
def as121 : AS := (as120.1, as120.2.1, as120.2.2.1, (0, 8, 0) :: as120.2.2.2.1, as120.2.2.2.2)
def as122 : AS := (as121.1 ++ [(6, 0)], as121.2.1 + 9, as121.2.2)
def as123 : AS := (as122.1, as122.2.1, as122.2.2.1, (44, 0, 0) :: as122.2.2.2.1, as122.2.2.2.2)
def as124 : AS := (as123.1, as123.2.1, as123.2.2.1, (44, 1, 0) :: as123.2.2.2.1, as123.2.2.2.2)
def as125 : AS := (as124.1, as124.2.1, as124.2.2.1, (44, 2, 0) :: as124.2.2.2.1, as124.2.2.2.2)
def as126 : AS := (as125.1 ++ [(100, 8)], as125.2.1 + 8, as125.2.2)
def as127 : AS := (as126.1, as126.2.1, (44, 3, some 45) :: as126.2.2.1, as126.2.2.2.1, as126.2.2.2.2)
def as128 : AS := (as127.1 ++ [(100, 8)], as127.2.1 + 8, as127.2.2)
def as129 : AS := (as128.1, as128.2.1, (44, 4, some 46) :: as128.2.2.1, as128.2.2.2.1, as128.2.2.2.2)
def as130 : AS := (as129.1 ++ [(100, 8)], as129.2.1 + 8, as129.2.2)
def as131 : AS := (as130.1, as130.2.1, (44, 5, some 47) :: as130.2.2.1, as130.2.2.2.1, as130.2.2.2.2)
def as132 : AS := (as131.1 ++ [(100, 8)], as131.2.1 + 8, as131.2.2)
def as133 : AS := (as132.1, as132.2.1, (44, 6, some 48) :: as132.2.2.1, as132.2.2.2.1, as132.2.2.2.2)
def as134 : AS := (as133.1 ++ [(100, 8)], as133.2.1 + 8, as133.2.2)
def as135 : AS := (as134.1, as134.2.1, (44, 7, some 49) :: as134.2.2.1, as134.2.2.2.1, as134.2.2.2.2)
def as136 : AS := (as135.1 ++ [(100, 8)], as135.2.1 + 8, as135.2.2)
def as137 : AS := (as136.1, as136.2.1, (44, 8, some 50) :: as136.2.2.1, as136.2.2.2.1, as136.2.2.2.2)
def as138 : AS := (as137.1, as137.2.1, as137.2.2.1, as137.2.2.2.1, 47 :: as137.2.2.2.2)
def as139 : AS := (as138.1, as138.2.1, as138.2.2.1, as138.2.2.2.1, 49 :: as138.2.2.2.2)
def as140 : AS := (as139.1, as139.2.1, (0, 9, some 44) :: as139.2.2.1, as139.2.2.2.1, as139.2.2.2.2)
def as141 : AS := (as140.1 ++ [(0, 0)], as140.2.1 + 3, as140.2.2)
def as142 : AS := (as141.1 ++ [(104, 40)], as141.2.1 + 40, as141.2.2)
def as143 : AS := (as142.1, as142.2.1, (51, 0, some 52) :: as142.2.2.1, as142.2.2.2.1, as142.2.2.2.2)
def as144 : AS := (as143.1, as143.2.1, as143.2.2.1, (51, 1, 0) :: as143.2.2.2.1, as143.2.2.2.2)
def as145 : AS := (as144.1, as144.2.1, as144.2.2.1, (51, 2, 0) :: as144.2.2.2.1, as144.2.2.2.2)
def as146 : AS := (as145.1, as145.2.1, (0, 10, some 51) :: as145.2.2.1, as145.2.2.2.1, as145.2.2.2.2)
def as147 : AS := (as146.1 ++ [(5, 0)], as146.2.1 + 4, as146.2.2)
def as148 : AS := (as147.1 ++ [(100, 8)], as147.2.1 + 8, as147.2.2)
def as149 : AS := (as148.1, as148.2.1, (53, 0, some 54) :: as148.2.2.1, as148.2.2.2.1, as148.2.2.2.2)
def as150 : AS := (as149.1 ++ [(100, 8)], as149.2.1 + 8, as149.2.2)
def as151 : AS := (as150.1, as150.2.1, (53, 1, some 55) :: as150.2.2.1, as150.2.2.2.1, as150.2.2.2.2)
def as152 : AS := (as151.1 ++ [(100, 8)], as151.2.1 + 8, as151.2.2)
def as153 : AS := (as152.1, as152.2.1, (53, 2, some 56) :: as152.2.2.1, as152.2.2.2.1, as152.2.2.2.2)
def as154 : AS := (as153.1, as153.2.1, as153.2.2.1, (53, 3, 0) :: as153.2.2.2.1, as153.2.2.2.2)
def as155 : AS := (as154.1, as154.2.1, (0, 11, some 53) :: as154.2.2.1, as154.2.2.2.1, as154.2.2.2.2)
def as156 : AS := (as155.1 ++ [(100, 3)], as155.2.1 + 3, as155.2.2)
def as157 : AS := (as156.1, as156.2.1, (0, 12, some 57) :: as156.2.2.1, as156.2.2.2.1, as156.2.2.2.2)
def as158 : AS := (as157.1 ++ [(1, 0)], as157.2.1 + 4, as157.2.2)
def as159 : AS := (as158.1 ++ [(100, 256)], as158.2.1 + 256, as158.2.2)
def as160 : AS := (as159.1, as159.2.1, (58, 0, some 59) :: as159.2.2.1, as159.2.2.2.1, as159.2.2.2.2)
def as161 : AS := (as160.1 ++ [(100, 256)], as160.2.1 + 256, as160.2.2)
def as162 : AS := (as161.1, as161.2.1, (58, 1, some 60) :: as161.2.2.1, as161.2.2.2.1, as161.2.2.2.2)
def as163 : AS := (as162.1 ++ [(100, 8)], as162.2.1 + 8, as162.2.2)
def as164 : AS := (as163.1, as163.2.1, (58, 2, some 61) :: as163.2.2.1, as163.2.2.2.1, as163.2.2.2.2)
def as165 : AS := (as164.1, as164.2.1, as164.2.2.1, (58, 3, 0) :: as164.2.2.2.1, as164.2.2.2.2)
def as166 : AS := (as165.1, as165.2.1, (0, 13, some 58) :: as165.2.2.1, as165.2.2.2.1, as165.2.2.2.2)
def as167 : AS := (as166.1 ++ [(7, 0)], as166.2.1 + 3, as166.2.2)
def as168 : AS := (as167.1 ++ [(100, 8)], as167.2.1 + 8, as167.2.2)
def as169 : AS := (as168.1, as168.2.1, (62, 0, some 63) :: as168.2.2.1, as168.2.2.2.1, as168.2.2.2.2)
def as170 : AS := (as169.1 ++ [(100, 8)], as169.2.1 + 8, as169.2.2)
def as171 : AS := (as170.1, as170.2.1, (62, 1, some 64) :: as170.2.2.1, as170.2.2.2.1, as170.2.2.2.2)
def as172 : AS := (as171.1 ++ [(100, 8)], as171.2.1 + 8, as171.2.2)
def as173 : AS := (as172.1, as172.2.1, (62, 2, some 65) :: as172.2.2.1, as172.2.2.2.1, as172.2.2.2.2)
def as174 : AS := (as173.1, as173.2.1, (0, 14, some 62) :: as173.2.2.1, as173.2.2.2.1, as173.2.2.2.2)
def as175 : AS := (as174.1 ++ [(103, 8)], as174.2.1 + 8, as174.2.2)
def as176 : AS := (as175.1, as175.2.1, (0, 15, some 66) :: as175.2.2.1, as175.2.2.2.1, as175.2.2.2.2)
theorem init8 {M : Mem} (h : Rel M as0) : ∃ M', F_X8_init 0 M = some M' ∧ Rel M' as176 := by
  unfold F_X8_init
  have l : M.1.length = 1 := by rw [h.1]; rfl
  try simp only [l]
  obtain ⟨N, e, h⟩ := R_nO (ci := 3) (n := 12) h rfl
  rw [e, ob_t]
  replace h : Rel N as1 := h
  clear e l
  have l : N.1.length = 2 := by rw [h.1]; rfl
  try simp only [l]
  try unfold F_X3_init
  try simp only [l]
  obtain ⟨N, e, h⟩ := R_nA (kd := 101) (n := 700) (x := 700) rfl (by decide) h rfl
  rw [e, ob_t]
  replace h : Rel N as2 := h
  clear e l
  have l : N.1.length = 3 := by rw [h.1]; rfl
  try simp only [l]
  obtain ⟨N, e, h⟩ := R_pQ (ci := 3) (k := 1) (j := 0) (v := some 2) h rfl
  rw [e, ob_t]
  replace h : Rel N as3 := h
  clear e l
  have l : N.1.length = 3 := by rw [h.1]; rfl
  try simp only [l]
  obtain ⟨N, e, h⟩ := R_pI (ci := 3) (k := 1) (j := 1) (v := 0) h rfl
  rw [e, ob_t]
  replace h : Rel N as4 := h
  clear e l
  have l : N.1.length = 3 := by rw [h.1]; rfl
  try simp only [l]
  obtain ⟨N, e, h⟩ := R_pI (ci := 3) (k := 1) (j := 2) (v := 0) h rfl
  rw [e, ob_t]
  replace h : Rel N as5 := h
  clear e l
  have l : N.1.length = 3 := by rw [h.1]; rfl
  try simp only [l]
  obtain ⟨N, e, h⟩ := R_pI (ci := 3) (k := 1) (j := 3) (v := 0) h rfl
  rw [e, ob_t]
  replace h : Rel N as6 := h
  clear e l
  have l : N.1.length = 3 := by rw [h.1]; rfl
  try simp only [l]
  obtain ⟨N, e, h⟩ := R_pI (ci := 3) (k := 1) (j := 4) (v := -1) h rfl
  rw [e, ob_t]
  replace h : Rel N as7 := h
  clear e l
  have l : N.1.length = 3 := by rw [h.1]; rfl
  try simp only [l]
  obtain ⟨N, e, h⟩ := R_pI (ci := 3) (k := 1) (j := 5) (v := 0) h rfl
  rw [e, ob_t]
  replace h : Rel N as8 := h
  clear e l
  have l : N.1.length = 3 := by rw [h.1]; rfl
  try simp only [l]
  obtain ⟨N, e, h⟩ := R_pI (ci := 3) (k := 1) (j := 6) (v := 0) h rfl
  rw [e, ob_t]
  replace h : Rel N as9 := h
  clear e l
  have l : N.1.length = 3 := by rw [h.1]; rfl
  try simp only [l]
  obtain ⟨N, e, h⟩ := R_pI (ci := 3) (k := 1) (j := 7) (v := 0) h rfl
  rw [e, ob_t]
  replace h : Rel N as10 := h
  clear e l
  have l : N.1.length = 3 := by rw [h.1]; rfl
  try simp only [l]
  obtain ⟨N, e, h⟩ := R_pI (ci := 3) (k := 1) (j := 8) (v := 0) h rfl
  rw [e, ob_t]
  replace h : Rel N as11 := h
  clear e l
  have l : N.1.length = 3 := by rw [h.1]; rfl
  try simp only [l]
  obtain ⟨N, e, h⟩ := R_nA (kd := 100) (n := 700) (x := 700) rfl (by decide) h rfl
  rw [e, ob_t]
  replace h : Rel N as12 := h
  clear e l
  have l : N.1.length = 4 := by rw [h.1]; rfl
  try simp only [l]
  obtain ⟨N, e, h⟩ := R_pQ (ci := 3) (k := 1) (j := 9) (v := some 3) h rfl
  rw [e, ob_t]
  replace h : Rel N as13 := h
  clear e l
  have l : N.1.length = 4 := by rw [h.1]; rfl
  try simp only [l]
  obtain ⟨N, e, h⟩ := R_pI (ci := 3) (k := 1) (j := 10) (v := 0) h rfl
  rw [e, ob_t]
  replace h : Rel N as14 := h
  clear e l
  have l : N.1.length = 4 := by rw [h.1]; rfl
  try simp only [l]
  obtain ⟨N, e, h⟩ := R_pZ (ci := 3) (k := 1) (j := 11) (v := 0) h rfl (by decide)
  rw [e, ob_t]
  replace h : Rel N as15 := h
  clear e l
  have l : N.1.length = 4 := by rw [h.1]; rfl
  try simp only [l]
  rw [ob_t]
  try simp only [l]
  obtain ⟨N, e, h⟩ := R_pQ (ci := 8) (k := 0) (j := 0) (v := some 1) h rfl
  rw [e, ob_t]
  replace h : Rel N as16 := h
  clear e l
  have l : N.1.length = 4 := by rw [h.1]; rfl
  try simp only [l]
  obtain ⟨N, e, h⟩ := R_pI (ci := 8) (k := 0) (j := 1) (v := -1) h rfl
  rw [e, ob_t]
  replace h : Rel N as17 := h
  clear e l
  have l : N.1.length = 4 := by rw [h.1]; rfl
  try simp only [l]
  obtain ⟨N, e, h⟩ := R_nO (ci := 2) (n := 14) h rfl
  rw [e, ob_t]
  replace h : Rel N as18 := h
  clear e l
  have l : N.1.length = 5 := by rw [h.1]; rfl
  try simp only [l]
  try unfold F_X2_init
  try simp only [l]
  obtain ⟨N, e, h⟩ := R_pI (ci := 2) (k := 4) (j := 0) (v := 0) h rfl
  rw [e, ob_t]
  replace h : Rel N as19 := h
  clear e l
  have l : N.1.length = 5 := by rw [h.1]; rfl
  try simp only [l]
  obtain ⟨N, e, h⟩ := R_pI (ci := 2) (k := 4) (j := 1) (v := 0) h rfl
  rw [e, ob_t]
  replace h : Rel N as20 := h
  clear e l
  have l : N.1.length = 5 := by rw [h.1]; rfl
  try simp only [l]
  obtain ⟨N, e, h⟩ := R_pI (ci := 2) (k := 4) (j := 2) (v := 0) h rfl
  rw [e, ob_t]
  replace h : Rel N as21 := h
  clear e l
  have l : N.1.length = 5 := by rw [h.1]; rfl
  try simp only [l]
  obtain ⟨N, e, h⟩ := R_nA (kd := 100) (n := 8) (x := 8) rfl (by decide) h rfl
  rw [e, ob_t]
  replace h : Rel N as22 := h
  clear e l
  have l : N.1.length = 6 := by rw [h.1]; rfl
  try simp only [l]
  obtain ⟨N, e, h⟩ := R_pQ (ci := 2) (k := 4) (j := 3) (v := some 5) h rfl
  rw [e, ob_t]
  replace h : Rel N as23 := h
  clear e l
  have l : N.1.length = 6 := by rw [h.1]; rfl
  try simp only [l]
  obtain ⟨N, e, h⟩ := R_nA (kd := 100) (n := 8) (x := 8) rfl (by decide) h rfl
  rw [e, ob_t]
  replace h : Rel N as24 := h
  clear e l
  have l : N.1.length = 7 := by rw [h.1]; rfl
  try simp only [l]
  obtain ⟨N, e, h⟩ := R_pQ (ci := 2) (k := 4) (j := 4) (v := some 6) h rfl
  rw [e, ob_t]
  replace h : Rel N as25 := h
  clear e l
  have l : N.1.length = 7 := by rw [h.1]; rfl
  try simp only [l]
  obtain ⟨N, e, h⟩ := R_nA (kd := 100) (n := 8) (x := 8) rfl (by decide) h rfl
  rw [e, ob_t]
  replace h : Rel N as26 := h
  clear e l
  have l : N.1.length = 8 := by rw [h.1]; rfl
  try simp only [l]
  obtain ⟨N, e, h⟩ := R_pQ (ci := 2) (k := 4) (j := 5) (v := some 7) h rfl
  rw [e, ob_t]
  replace h : Rel N as27 := h
  clear e l
  have l : N.1.length = 8 := by rw [h.1]; rfl
  try simp only [l]
  obtain ⟨N, e, h⟩ := R_nA (kd := 100) (n := 8) (x := 8) rfl (by decide) h rfl
  rw [e, ob_t]
  replace h : Rel N as28 := h
  clear e l
  have l : N.1.length = 9 := by rw [h.1]; rfl
  try simp only [l]
  obtain ⟨N, e, h⟩ := R_pQ (ci := 2) (k := 4) (j := 6) (v := some 8) h rfl
  rw [e, ob_t]
  replace h : Rel N as29 := h
  clear e l
  have l : N.1.length = 9 := by rw [h.1]; rfl
  try simp only [l]
  obtain ⟨N, e, h⟩ := R_nA (kd := 100) (n := 8) (x := 8) rfl (by decide) h rfl
  rw [e, ob_t]
  replace h : Rel N as30 := h
  clear e l
  have l : N.1.length = 10 := by rw [h.1]; rfl
  try simp only [l]
  obtain ⟨N, e, h⟩ := R_pQ (ci := 2) (k := 4) (j := 7) (v := some 9) h rfl
  rw [e, ob_t]
  replace h : Rel N as31 := h
  clear e l
  have l : N.1.length = 10 := by rw [h.1]; rfl
  try simp only [l]
  obtain ⟨N, e, h⟩ := R_nA (kd := 100) (n := 8) (x := 8) rfl (by decide) h rfl
  rw [e, ob_t]
  replace h : Rel N as32 := h
  clear e l
  have l : N.1.length = 11 := by rw [h.1]; rfl
  try simp only [l]
  obtain ⟨N, e, h⟩ := R_pQ (ci := 2) (k := 4) (j := 8) (v := some 10) h rfl
  rw [e, ob_t]
  replace h : Rel N as33 := h
  clear e l
  have l : N.1.length = 11 := by rw [h.1]; rfl
  try simp only [l]
  obtain ⟨N, e, h⟩ := R_nA (kd := 100) (n := 8) (x := 8) rfl (by decide) h rfl
  rw [e, ob_t]
  replace h : Rel N as34 := h
  clear e l
  have l : N.1.length = 12 := by rw [h.1]; rfl
  try simp only [l]
  obtain ⟨N, e, h⟩ := R_pQ (ci := 2) (k := 4) (j := 9) (v := some 11) h rfl
  rw [e, ob_t]
  replace h : Rel N as35 := h
  clear e l
  have l : N.1.length = 12 := by rw [h.1]; rfl
  try simp only [l]
  obtain ⟨N, e, h⟩ := R_pQ (ci := 2) (k := 4) (j := 10) (v := none) h rfl
  rw [e, ob_t]
  replace h : Rel N as36 := h
  clear e l
  have l : N.1.length = 12 := by rw [h.1]; rfl
  try simp only [l]
  obtain ⟨N, e, h⟩ := R_pQ (ci := 2) (k := 4) (j := 11) (v := none) h rfl
  rw [e, ob_t]
  replace h : Rel N as37 := h
  clear e l
  have l : N.1.length = 12 := by rw [h.1]; rfl
  try simp only [l]
  obtain ⟨N, e, h⟩ := R_nA (kd := 100) (n := 7) (x := 7) rfl (by decide) h rfl
  rw [e, ob_t]
  replace h : Rel N as38 := h
  clear e l
  have l : N.1.length = 13 := by rw [h.1]; rfl
  try simp only [l]
  obtain ⟨N, e, h⟩ := R_pQ (ci := 2) (k := 4) (j := 12) (v := some 12) h rfl
  rw [e, ob_t]
  replace h : Rel N as39 := h
  clear e l
  have l : N.1.length = 13 := by rw [h.1]; rfl
  try simp only [l]
  obtain ⟨N, e, h⟩ := R_nA (kd := 100) (n := 32) (x := 32) rfl (by decide) h rfl
  rw [e, ob_t]
  replace h : Rel N as40 := h
  clear e l
  have l : N.1.length = 14 := by rw [h.1]; rfl
  try simp only [l]
  obtain ⟨N, e, h⟩ := R_pQ (ci := 2) (k := 4) (j := 13) (v := some 13) h rfl
  rw [e, ob_t]
  replace h : Rel N as41 := h
  clear e l
  have l : N.1.length = 14 := by rw [h.1]; rfl
  try simp only [l]
  rw [ob_t]
  try simp only [l]
  obtain ⟨N, e, h⟩ := R_pQ (ci := 8) (k := 0) (j := 2) (v := some 4) h rfl
  rw [e, ob_t]
  replace h : Rel N as42 := h
  clear e l
  have l : N.1.length = 14 := by rw [h.1]; rfl
  try simp only [l]
  obtain ⟨N, e, h⟩ := R_nO (ci := 2) (n := 14) h rfl
  rw [e, ob_t]
  replace h : Rel N as43 := h
  clear e l
  have l : N.1.length = 15 := by rw [h.1]; rfl
  try simp only [l]
  try unfold F_X2_init
  try simp only [l]
  obtain ⟨N, e, h⟩ := R_pI (ci := 2) (k := 14) (j := 0) (v := 0) h rfl
  rw [e, ob_t]
  replace h : Rel N as44 := h
  clear e l
  have l : N.1.length = 15 := by rw [h.1]; rfl
  try simp only [l]
  obtain ⟨N, e, h⟩ := R_pI (ci := 2) (k := 14) (j := 1) (v := 0) h rfl
  rw [e, ob_t]
  replace h : Rel N as45 := h
  clear e l
  have l : N.1.length = 15 := by rw [h.1]; rfl
  try simp only [l]
  obtain ⟨N, e, h⟩ := R_pI (ci := 2) (k := 14) (j := 2) (v := 0) h rfl
  rw [e, ob_t]
  replace h : Rel N as46 := h
  clear e l
  have l : N.1.length = 15 := by rw [h.1]; rfl
  try simp only [l]
  obtain ⟨N, e, h⟩ := R_nA (kd := 100) (n := 8) (x := 8) rfl (by decide) h rfl
  rw [e, ob_t]
  replace h : Rel N as47 := h
  clear e l
  have l : N.1.length = 16 := by rw [h.1]; rfl
  try simp only [l]
  obtain ⟨N, e, h⟩ := R_pQ (ci := 2) (k := 14) (j := 3) (v := some 15) h rfl
  rw [e, ob_t]
  replace h : Rel N as48 := h
  clear e l
  have l : N.1.length = 16 := by rw [h.1]; rfl
  try simp only [l]
  obtain ⟨N, e, h⟩ := R_nA (kd := 100) (n := 8) (x := 8) rfl (by decide) h rfl
  rw [e, ob_t]
  replace h : Rel N as49 := h
  clear e l
  have l : N.1.length = 17 := by rw [h.1]; rfl
  try simp only [l]
  obtain ⟨N, e, h⟩ := R_pQ (ci := 2) (k := 14) (j := 4) (v := some 16) h rfl
  rw [e, ob_t]
  replace h : Rel N as50 := h
  clear e l
  have l : N.1.length = 17 := by rw [h.1]; rfl
  try simp only [l]
  obtain ⟨N, e, h⟩ := R_nA (kd := 100) (n := 8) (x := 8) rfl (by decide) h rfl
  rw [e, ob_t]
  replace h : Rel N as51 := h
  clear e l
  have l : N.1.length = 18 := by rw [h.1]; rfl
  try simp only [l]
  obtain ⟨N, e, h⟩ := R_pQ (ci := 2) (k := 14) (j := 5) (v := some 17) h rfl
  rw [e, ob_t]
  replace h : Rel N as52 := h
  clear e l
  have l : N.1.length = 18 := by rw [h.1]; rfl
  try simp only [l]
  obtain ⟨N, e, h⟩ := R_nA (kd := 100) (n := 8) (x := 8) rfl (by decide) h rfl
  rw [e, ob_t]
  replace h : Rel N as53 := h
  clear e l
  have l : N.1.length = 19 := by rw [h.1]; rfl
  try simp only [l]
  obtain ⟨N, e, h⟩ := R_pQ (ci := 2) (k := 14) (j := 6) (v := some 18) h rfl
  rw [e, ob_t]
  replace h : Rel N as54 := h
  clear e l
  have l : N.1.length = 19 := by rw [h.1]; rfl
  try simp only [l]
  obtain ⟨N, e, h⟩ := R_nA (kd := 100) (n := 8) (x := 8) rfl (by decide) h rfl
  rw [e, ob_t]
  replace h : Rel N as55 := h
  clear e l
  have l : N.1.length = 20 := by rw [h.1]; rfl
  try simp only [l]
  obtain ⟨N, e, h⟩ := R_pQ (ci := 2) (k := 14) (j := 7) (v := some 19) h rfl
  rw [e, ob_t]
  replace h : Rel N as56 := h
  clear e l
  have l : N.1.length = 20 := by rw [h.1]; rfl
  try simp only [l]
  obtain ⟨N, e, h⟩ := R_nA (kd := 100) (n := 8) (x := 8) rfl (by decide) h rfl
  rw [e, ob_t]
  replace h : Rel N as57 := h
  clear e l
  have l : N.1.length = 21 := by rw [h.1]; rfl
  try simp only [l]
  obtain ⟨N, e, h⟩ := R_pQ (ci := 2) (k := 14) (j := 8) (v := some 20) h rfl
  rw [e, ob_t]
  replace h : Rel N as58 := h
  clear e l
  have l : N.1.length = 21 := by rw [h.1]; rfl
  try simp only [l]
  obtain ⟨N, e, h⟩ := R_nA (kd := 100) (n := 8) (x := 8) rfl (by decide) h rfl
  rw [e, ob_t]
  replace h : Rel N as59 := h
  clear e l
  have l : N.1.length = 22 := by rw [h.1]; rfl
  try simp only [l]
  obtain ⟨N, e, h⟩ := R_pQ (ci := 2) (k := 14) (j := 9) (v := some 21) h rfl
  rw [e, ob_t]
  replace h : Rel N as60 := h
  clear e l
  have l : N.1.length = 22 := by rw [h.1]; rfl
  try simp only [l]
  obtain ⟨N, e, h⟩ := R_pQ (ci := 2) (k := 14) (j := 10) (v := none) h rfl
  rw [e, ob_t]
  replace h : Rel N as61 := h
  clear e l
  have l : N.1.length = 22 := by rw [h.1]; rfl
  try simp only [l]
  obtain ⟨N, e, h⟩ := R_pQ (ci := 2) (k := 14) (j := 11) (v := none) h rfl
  rw [e, ob_t]
  replace h : Rel N as62 := h
  clear e l
  have l : N.1.length = 22 := by rw [h.1]; rfl
  try simp only [l]
  obtain ⟨N, e, h⟩ := R_nA (kd := 100) (n := 7) (x := 7) rfl (by decide) h rfl
  rw [e, ob_t]
  replace h : Rel N as63 := h
  clear e l
  have l : N.1.length = 23 := by rw [h.1]; rfl
  try simp only [l]
  obtain ⟨N, e, h⟩ := R_pQ (ci := 2) (k := 14) (j := 12) (v := some 22) h rfl
  rw [e, ob_t]
  replace h : Rel N as64 := h
  clear e l
  have l : N.1.length = 23 := by rw [h.1]; rfl
  try simp only [l]
  obtain ⟨N, e, h⟩ := R_nA (kd := 100) (n := 32) (x := 32) rfl (by decide) h rfl
  rw [e, ob_t]
  replace h : Rel N as65 := h
  clear e l
  have l : N.1.length = 24 := by rw [h.1]; rfl
  try simp only [l]
  obtain ⟨N, e, h⟩ := R_pQ (ci := 2) (k := 14) (j := 13) (v := some 23) h rfl
  rw [e, ob_t]
  replace h : Rel N as66 := h
  clear e l
  have l : N.1.length = 24 := by rw [h.1]; rfl
  try simp only [l]
  rw [ob_t]
  try simp only [l]
  obtain ⟨N, e, h⟩ := R_pQ (ci := 8) (k := 0) (j := 3) (v := some 14) h rfl
  rw [e, ob_t]
  replace h : Rel N as67 := h
  clear e l
  have l : N.1.length = 24 := by rw [h.1]; rfl
  try simp only [l]
  obtain ⟨N, e, h⟩ := R_nO (ci := 6) (n := 9) h rfl
  rw [e, ob_t]
  replace h : Rel N as68 := h
  clear e l
  have l : N.1.length = 25 := by rw [h.1]; rfl
  try simp only [l]
  try unfold F_X6_init
  try simp only [l]
  obtain ⟨N, e, h⟩ := R_pI (ci := 6) (k := 24) (j := 0) (v := 0) h rfl
  rw [e, ob_t]
  replace h : Rel N as69 := h
  clear e l
  have l : N.1.length = 25 := by rw [h.1]; rfl
  try simp only [l]
  obtain ⟨N, e, h⟩ := R_pZ (ci := 6) (k := 24) (j := 1) (v := 0) h rfl (by decide)
  rw [e, ob_t]
  replace h : Rel N as70 := h
  clear e l
  have l : N.1.length = 25 := by rw [h.1]; rfl
  try simp only [l]
  obtain ⟨N, e, h⟩ := R_pI (ci := 6) (k := 24) (j := 2) (v := 0) h rfl
  rw [e, ob_t]
  replace h : Rel N as71 := h
  clear e l
  have l : N.1.length = 25 := by rw [h.1]; rfl
  try simp only [l]
  obtain ⟨N, e, h⟩ := R_nA (kd := 100) (n := 8) (x := 8) rfl (by decide) h rfl
  rw [e, ob_t]
  replace h : Rel N as72 := h
  clear e l
  have l : N.1.length = 26 := by rw [h.1]; rfl
  try simp only [l]
  obtain ⟨N, e, h⟩ := R_pQ (ci := 6) (k := 24) (j := 3) (v := some 25) h rfl
  rw [e, ob_t]
  replace h : Rel N as73 := h
  clear e l
  have l : N.1.length = 26 := by rw [h.1]; rfl
  try simp only [l]
  obtain ⟨N, e, h⟩ := R_nA (kd := 100) (n := 8) (x := 8) rfl (by decide) h rfl
  rw [e, ob_t]
  replace h : Rel N as74 := h
  clear e l
  have l : N.1.length = 27 := by rw [h.1]; rfl
  try simp only [l]
  obtain ⟨N, e, h⟩ := R_pQ (ci := 6) (k := 24) (j := 4) (v := some 26) h rfl
  rw [e, ob_t]
  replace h : Rel N as75 := h
  clear e l
  have l : N.1.length = 27 := by rw [h.1]; rfl
  try simp only [l]
  obtain ⟨N, e, h⟩ := R_nA (kd := 100) (n := 8) (x := 8) rfl (by decide) h rfl
  rw [e, ob_t]
  replace h : Rel N as76 := h
  clear e l
  have l : N.1.length = 28 := by rw [h.1]; rfl
  try simp only [l]
  obtain ⟨N, e, h⟩ := R_pQ (ci := 6) (k := 24) (j := 5) (v := some 27) h rfl
  rw [e, ob_t]
  replace h : Rel N as77 := h
  clear e l
  have l : N.1.length = 28 := by rw [h.1]; rfl
  try simp only [l]
  obtain ⟨N, e, h⟩ := R_nA (kd := 100) (n := 8) (x := 8) rfl (by decide) h rfl
  rw [e, ob_t]
  replace h : Rel N as78 := h
  clear e l
  have l : N.1.length = 29 := by rw [h.1]; rfl
  try simp only [l]
  obtain ⟨N, e, h⟩ := R_pQ (ci := 6) (k := 24) (j := 6) (v := some 28) h rfl
  rw [e, ob_t]
  replace h : Rel N as79 := h
  clear e l
  have l : N.1.length = 29 := by rw [h.1]; rfl
  try simp only [l]
  obtain ⟨N, e, h⟩ := R_nA (kd := 100) (n := 8) (x := 8) rfl (by decide) h rfl
  rw [e, ob_t]
  replace h : Rel N as80 := h
  clear e l
  have l : N.1.length = 30 := by rw [h.1]; rfl
  try simp only [l]
  obtain ⟨N, e, h⟩ := R_pQ (ci := 6) (k := 24) (j := 7) (v := some 29) h rfl
  rw [e, ob_t]
  replace h : Rel N as81 := h
  clear e l
  have l : N.1.length = 30 := by rw [h.1]; rfl
  try simp only [l]
  obtain ⟨N, e, h⟩ := R_nA (kd := 100) (n := 8) (x := 8) rfl (by decide) h rfl
  rw [e, ob_t]
  replace h : Rel N as82 := h
  clear e l
  have l : N.1.length = 31 := by rw [h.1]; rfl
  try simp only [l]
  obtain ⟨N, e, h⟩ := R_pQ (ci := 6) (k := 24) (j := 8) (v := some 30) h rfl
  rw [e, ob_t]
  replace h : Rel N as83 := h
  clear e l
  have l : N.1.length = 31 := by rw [h.1]; rfl
  try simp only [l]
  rw [R_gP (ci := 6) (k := 24) (j := 5) (v := 27) h rfl rfl, ob_t]
  obtain ⟨N, e, h⟩ := R_fill (k := 27) (n := 8) (v := -1) h rfl (by decide)
  rw [e, ob_t]
  replace h : Rel N as84 := h
  clear e l
  have l : N.1.length = 31 := by rw [h.1]; rfl
  try simp only [l]
  rw [R_gP (ci := 6) (k := 24) (j := 7) (v := 29) h rfl rfl, ob_t]
  obtain ⟨N, e, h⟩ := R_fill (k := 29) (n := 8) (v := -1) h rfl (by decide)
  rw [e, ob_t]
  replace h : Rel N as85 := h
  clear e l
  have l : N.1.length = 31 := by rw [h.1]; rfl
  try simp only [l]
  rw [ob_t]
  try simp only [l]
  obtain ⟨N, e, h⟩ := R_pQ (ci := 8) (k := 0) (j := 4) (v := some 24) h rfl
  rw [e, ob_t]
  replace h : Rel N as86 := h
  clear e l
  have l : N.1.length = 31 := by rw [h.1]; rfl
  try simp only [l]
  obtain ⟨N, e, h⟩ := R_nO (ci := 6) (n := 9) h rfl
  rw [e, ob_t]
  replace h : Rel N as87 := h
  clear e l
  have l : N.1.length = 32 := by rw [h.1]; rfl
  try simp only [l]
  try unfold F_X6_init
  try simp only [l]
  obtain ⟨N, e, h⟩ := R_pI (ci := 6) (k := 31) (j := 0) (v := 0) h rfl
  rw [e, ob_t]
  replace h : Rel N as88 := h
  clear e l
  have l : N.1.length = 32 := by rw [h.1]; rfl
  try simp only [l]
  obtain ⟨N, e, h⟩ := R_pZ (ci := 6) (k := 31) (j := 1) (v := 0) h rfl (by decide)
  rw [e, ob_t]
  replace h : Rel N as89 := h
  clear e l
  have l : N.1.length = 32 := by rw [h.1]; rfl
  try simp only [l]
  obtain ⟨N, e, h⟩ := R_pI (ci := 6) (k := 31) (j := 2) (v := 0) h rfl
  rw [e, ob_t]
  replace h : Rel N as90 := h
  clear e l
  have l : N.1.length = 32 := by rw [h.1]; rfl
  try simp only [l]
  obtain ⟨N, e, h⟩ := R_nA (kd := 100) (n := 8) (x := 8) rfl (by decide) h rfl
  rw [e, ob_t]
  replace h : Rel N as91 := h
  clear e l
  have l : N.1.length = 33 := by rw [h.1]; rfl
  try simp only [l]
  obtain ⟨N, e, h⟩ := R_pQ (ci := 6) (k := 31) (j := 3) (v := some 32) h rfl
  rw [e, ob_t]
  replace h : Rel N as92 := h
  clear e l
  have l : N.1.length = 33 := by rw [h.1]; rfl
  try simp only [l]
  obtain ⟨N, e, h⟩ := R_nA (kd := 100) (n := 8) (x := 8) rfl (by decide) h rfl
  rw [e, ob_t]
  replace h : Rel N as93 := h
  clear e l
  have l : N.1.length = 34 := by rw [h.1]; rfl
  try simp only [l]
  obtain ⟨N, e, h⟩ := R_pQ (ci := 6) (k := 31) (j := 4) (v := some 33) h rfl
  rw [e, ob_t]
  replace h : Rel N as94 := h
  clear e l
  have l : N.1.length = 34 := by rw [h.1]; rfl
  try simp only [l]
  obtain ⟨N, e, h⟩ := R_nA (kd := 100) (n := 8) (x := 8) rfl (by decide) h rfl
  rw [e, ob_t]
  replace h : Rel N as95 := h
  clear e l
  have l : N.1.length = 35 := by rw [h.1]; rfl
  try simp only [l]
  obtain ⟨N, e, h⟩ := R_pQ (ci := 6) (k := 31) (j := 5) (v := some 34) h rfl
  rw [e, ob_t]
  replace h : Rel N as96 := h
  clear e l
  have l : N.1.length = 35 := by rw [h.1]; rfl
  try simp only [l]
  obtain ⟨N, e, h⟩ := R_nA (kd := 100) (n := 8) (x := 8) rfl (by decide) h rfl
  rw [e, ob_t]
  replace h : Rel N as97 := h
  clear e l
  have l : N.1.length = 36 := by rw [h.1]; rfl
  try simp only [l]
  obtain ⟨N, e, h⟩ := R_pQ (ci := 6) (k := 31) (j := 6) (v := some 35) h rfl
  rw [e, ob_t]
  replace h : Rel N as98 := h
  clear e l
  have l : N.1.length = 36 := by rw [h.1]; rfl
  try simp only [l]
  obtain ⟨N, e, h⟩ := R_nA (kd := 100) (n := 8) (x := 8) rfl (by decide) h rfl
  rw [e, ob_t]
  replace h : Rel N as99 := h
  clear e l
  have l : N.1.length = 37 := by rw [h.1]; rfl
  try simp only [l]
  obtain ⟨N, e, h⟩ := R_pQ (ci := 6) (k := 31) (j := 7) (v := some 36) h rfl
  rw [e, ob_t]
  replace h : Rel N as100 := h
  clear e l
  have l : N.1.length = 37 := by rw [h.1]; rfl
  try simp only [l]
  obtain ⟨N, e, h⟩ := R_nA (kd := 100) (n := 8) (x := 8) rfl (by decide) h rfl
  rw [e, ob_t]
  replace h : Rel N as101 := h
  clear e l
  have l : N.1.length = 38 := by rw [h.1]; rfl
  try simp only [l]
  obtain ⟨N, e, h⟩ := R_pQ (ci := 6) (k := 31) (j := 8) (v := some 37) h rfl
  rw [e, ob_t]
  replace h : Rel N as102 := h
  clear e l
  have l : N.1.length = 38 := by rw [h.1]; rfl
  try simp only [l]
  rw [R_gP (ci := 6) (k := 31) (j := 5) (v := 34) h rfl rfl, ob_t]
  obtain ⟨N, e, h⟩ := R_fill (k := 34) (n := 8) (v := -1) h rfl (by decide)
  rw [e, ob_t]
  replace h : Rel N as103 := h
  clear e l
  have l : N.1.length = 38 := by rw [h.1]; rfl
  try simp only [l]
  rw [R_gP (ci := 6) (k := 31) (j := 7) (v := 36) h rfl rfl, ob_t]
  obtain ⟨N, e, h⟩ := R_fill (k := 36) (n := 8) (v := -1) h rfl (by decide)
  rw [e, ob_t]
  replace h : Rel N as104 := h
  clear e l
  have l : N.1.length = 38 := by rw [h.1]; rfl
  try simp only [l]
  rw [ob_t]
  try simp only [l]
  obtain ⟨N, e, h⟩ := R_pQ (ci := 8) (k := 0) (j := 5) (v := some 31) h rfl
  rw [e, ob_t]
  replace h : Rel N as105 := h
  clear e l
  have l : N.1.length = 38 := by rw [h.1]; rfl
  try simp only [l]
  obtain ⟨N, e, h⟩ := R_nO (ci := 0) (n := 3) h rfl
  rw [e, ob_t]
  replace h : Rel N as106 := h
  clear e l
  have l : N.1.length = 39 := by rw [h.1]; rfl
  try simp only [l]
  try unfold F_X0_init
  try simp only [l]
  obtain ⟨N, e, h⟩ := R_nA (kd := 104) (n := 40) (x := 40) rfl (by decide) h rfl
  rw [e, ob_t]
  replace h : Rel N as107 := h
  clear e l
  have l : N.1.length = 40 := by rw [h.1]; rfl
  try simp only [l]
  obtain ⟨N, e, h⟩ := R_pQ (ci := 0) (k := 38) (j := 0) (v := some 39) h rfl
  rw [e, ob_t]
  replace h : Rel N as108 := h
  clear e l
  have l : N.1.length = 40 := by rw [h.1]; rfl
  try simp only [l]
  obtain ⟨N, e, h⟩ := R_pI (ci := 0) (k := 38) (j := 1) (v := 0) h rfl
  rw [e, ob_t]
  replace h : Rel N as109 := h
  clear e l
  have l : N.1.length = 40 := by rw [h.1]; rfl
  try simp only [l]
  obtain ⟨N, e, h⟩ := R_pI (ci := 0) (k := 38) (j := 2) (v := 0) h rfl
  rw [e, ob_t]
  replace h : Rel N as110 := h
  clear e l
  have l : N.1.length = 40 := by rw [h.1]; rfl
  try simp only [l]
  rw [ob_t]
  try simp only [l]
  obtain ⟨N, e, h⟩ := R_pQ (ci := 8) (k := 0) (j := 6) (v := some 38) h rfl
  rw [e, ob_t]
  replace h : Rel N as111 := h
  clear e l
  have l : N.1.length = 40 := by rw [h.1]; rfl
  try simp only [l]
  obtain ⟨N, e, h⟩ := R_nO (ci := 5) (n := 4) h rfl
  rw [e, ob_t]
  replace h : Rel N as112 := h
  clear e l
  have l : N.1.length = 41 := by rw [h.1]; rfl
  try simp only [l]
  try unfold F_X5_init
  try simp only [l]
  obtain ⟨N, e, h⟩ := R_nA (kd := 100) (n := 8) (x := 8) rfl (by decide) h rfl
  rw [e, ob_t]
  replace h : Rel N as113 := h
  clear e l
  have l : N.1.length = 42 := by rw [h.1]; rfl
  try simp only [l]
  obtain ⟨N, e, h⟩ := R_pQ (ci := 5) (k := 40) (j := 0) (v := some 41) h rfl
  rw [e, ob_t]
  replace h : Rel N as114 := h
  clear e l
  have l : N.1.length = 42 := by rw [h.1]; rfl
  try simp only [l]
  obtain ⟨N, e, h⟩ := R_nA (kd := 100) (n := 8) (x := 8) rfl (by decide) h rfl
  rw [e, ob_t]
  replace h : Rel N as115 := h
  clear e l
  have l : N.1.length = 43 := by rw [h.1]; rfl
  try simp only [l]
  obtain ⟨N, e, h⟩ := R_pQ (ci := 5) (k := 40) (j := 1) (v := some 42) h rfl
  rw [e, ob_t]
  replace h : Rel N as116 := h
  clear e l
  have l : N.1.length = 43 := by rw [h.1]; rfl
  try simp only [l]
  obtain ⟨N, e, h⟩ := R_nA (kd := 100) (n := 8) (x := 8) rfl (by decide) h rfl
  rw [e, ob_t]
  replace h : Rel N as117 := h
  clear e l
  have l : N.1.length = 44 := by rw [h.1]; rfl
  try simp only [l]
  obtain ⟨N, e, h⟩ := R_pQ (ci := 5) (k := 40) (j := 2) (v := some 43) h rfl
  rw [e, ob_t]
  replace h : Rel N as118 := h
  clear e l
  have l : N.1.length = 44 := by rw [h.1]; rfl
  try simp only [l]
  obtain ⟨N, e, h⟩ := R_pI (ci := 5) (k := 40) (j := 3) (v := 0) h rfl
  rw [e, ob_t]
  replace h : Rel N as119 := h
  clear e l
  have l : N.1.length = 44 := by rw [h.1]; rfl
  try simp only [l]
  rw [ob_t]
  try simp only [l]
  obtain ⟨N, e, h⟩ := R_pQ (ci := 8) (k := 0) (j := 7) (v := some 40) h rfl
  rw [e, ob_t]
  replace h : Rel N as120 := h
  clear e l
  have l : N.1.length = 44 := by rw [h.1]; rfl
  try simp only [l]
  obtain ⟨N, e, h⟩ := R_pZ (ci := 8) (k := 0) (j := 8) (v := 0) h rfl (by decide)
  rw [e, ob_t]
  replace h : Rel N as121 := h
  clear e l
  have l : N.1.length = 44 := by rw [h.1]; rfl
  try simp only [l]
  obtain ⟨N, e, h⟩ := R_nO (ci := 6) (n := 9) h rfl
  rw [e, ob_t]
  replace h : Rel N as122 := h
  clear e l
  have l : N.1.length = 45 := by rw [h.1]; rfl
  try simp only [l]
  try unfold F_X6_init
  try simp only [l]
  obtain ⟨N, e, h⟩ := R_pI (ci := 6) (k := 44) (j := 0) (v := 0) h rfl
  rw [e, ob_t]
  replace h : Rel N as123 := h
  clear e l
  have l : N.1.length = 45 := by rw [h.1]; rfl
  try simp only [l]
  obtain ⟨N, e, h⟩ := R_pZ (ci := 6) (k := 44) (j := 1) (v := 0) h rfl (by decide)
  rw [e, ob_t]
  replace h : Rel N as124 := h
  clear e l
  have l : N.1.length = 45 := by rw [h.1]; rfl
  try simp only [l]
  obtain ⟨N, e, h⟩ := R_pI (ci := 6) (k := 44) (j := 2) (v := 0) h rfl
  rw [e, ob_t]
  replace h : Rel N as125 := h
  clear e l
  have l : N.1.length = 45 := by rw [h.1]; rfl
  try simp only [l]
  obtain ⟨N, e, h⟩ := R_nA (kd := 100) (n := 8) (x := 8) rfl (by decide) h rfl
  rw [e, ob_t]
  replace h : Rel N as126 := h
  clear e l
  have l : N.1.length = 46 := by rw [h.1]; rfl
  try simp only [l]
  obtain ⟨N, e, h⟩ := R_pQ (ci := 6) (k := 44) (j := 3) (v := some 45) h rfl
  rw [e, ob_t]
  replace h : Rel N as127 := h
  clear e l
  have l : N.1.length = 46 := by rw [h.1]; rfl
  try simp only [l]
  obtain ⟨N, e, h⟩ := R_nA (kd := 100) (n := 8) (x := 8) rfl (by decide) h rfl
  rw [e, ob_t]
  replace h : Rel N as128 := h
  clear e l
  have l : N.1.length = 47 := by rw [h.1]; rfl
  try simp only [l]
  obtain ⟨N, e, h⟩ := R_pQ (ci := 6) (k := 44) (j := 4) (v := some 46) h rfl
  rw [e, ob_t]
  replace h : Rel N as129 := h
  clear e l
  have l : N.1.length = 47 := by rw [h.1]; rfl
  try simp only [l]
  obtain ⟨N, e, h⟩ := R_nA (kd := 100) (n := 8) (x := 8) rfl (by decide) h rfl
  rw [e, ob_t]
  replace h : Rel N as130 := h
  clear e l
  have l : N.1.length = 48 := by rw [h.1]; rfl
  try simp only [l]
  obtain ⟨N, e, h⟩ := R_pQ (ci := 6) (k := 44) (j := 5) (v := some 47) h rfl
  rw [e, ob_t]
  replace h : Rel N as131 := h
  clear e l
  have l : N.1.length = 48 := by rw [h.1]; rfl
  try simp only [l]
  obtain ⟨N, e, h⟩ := R_nA (kd := 100) (n := 8) (x := 8) rfl (by decide) h rfl
  rw [e, ob_t]
  replace h : Rel N as132 := h
  clear e l
  have l : N.1.length = 49 := by rw [h.1]; rfl
  try simp only [l]
  obtain ⟨N, e, h⟩ := R_pQ (ci := 6) (k := 44) (j := 6) (v := some 48) h rfl
  rw [e, ob_t]
  replace h : Rel N as133 := h
  clear e l
  have l : N.1.length = 49 := by rw [h.1]; rfl
  try simp only [l]
  obtain ⟨N, e, h⟩ := R_nA (kd := 100) (n := 8) (x := 8) rfl (by decide) h rfl
  rw [e, ob_t]
  replace h : Rel N as134 := h
  clear e l
  have l : N.1.length = 50 := by rw [h.1]; rfl
  try simp only [l]
  obtain ⟨N, e, h⟩ := R_pQ (ci := 6) (k := 44) (j := 7) (v := some 49) h rfl
  rw [e, ob_t]
  replace h : Rel N as135 := h
  clear e l
  have l : N.1.length = 50 := by rw [h.1]; rfl
  try simp only [l]
  obtain ⟨N, e, h⟩ := R_nA (kd := 100) (n := 8) (x := 8) rfl (by decide) h rfl
  rw [e, ob_t]
  replace h : Rel N as136 := h
  clear e l
  have l : N.1.length = 51 := by rw [h.1]; rfl
  try simp only [l]
  obtain ⟨N, e, h⟩ := R_pQ (ci := 6) (k := 44) (j := 8) (v := some 50) h rfl
  rw [e, ob_t]
  replace h : Rel N as137 := h
  clear e l
  have l : N.1.length = 51 := by rw [h.1]; rfl
  try simp only [l]
  rw [R_gP (ci := 6) (k := 44) (j := 5) (v := 47) h rfl rfl, ob_t]
  obtain ⟨N, e, h⟩ := R_fill (k := 47) (n := 8) (v := -1) h rfl (by decide)
  rw [e, ob_t]
  replace h : Rel N as138 := h
  clear e l
  have l : N.1.length = 51 := by rw [h.1]; rfl
  try simp only [l]
  rw [R_gP (ci := 6) (k := 44) (j := 7) (v := 49) h rfl rfl, ob_t]
  obtain ⟨N, e, h⟩ := R_fill (k := 49) (n := 8) (v := -1) h rfl (by decide)
  rw [e, ob_t]
  replace h : Rel N as139 := h
  clear e l
  have l : N.1.length = 51 := by rw [h.1]; rfl
  try simp only [l]
  rw [ob_t]
  try simp only [l]
  obtain ⟨N, e, h⟩ := R_pQ (ci := 8) (k := 0) (j := 9) (v := some 44) h rfl
  rw [e, ob_t]
  replace h : Rel N as140 := h
  clear e l
  have l : N.1.length = 51 := by rw [h.1]; rfl
  try simp only [l]
  obtain ⟨N, e, h⟩ := R_nO (ci := 0) (n := 3) h rfl
  rw [e, ob_t]
  replace h : Rel N as141 := h
  clear e l
  have l : N.1.length = 52 := by rw [h.1]; rfl
  try simp only [l]
  try unfold F_X0_init
  try simp only [l]
  obtain ⟨N, e, h⟩ := R_nA (kd := 104) (n := 40) (x := 40) rfl (by decide) h rfl
  rw [e, ob_t]
  replace h : Rel N as142 := h
  clear e l
  have l : N.1.length = 53 := by rw [h.1]; rfl
  try simp only [l]
  obtain ⟨N, e, h⟩ := R_pQ (ci := 0) (k := 51) (j := 0) (v := some 52) h rfl
  rw [e, ob_t]
  replace h : Rel N as143 := h
  clear e l
  have l : N.1.length = 53 := by rw [h.1]; rfl
  try simp only [l]
  obtain ⟨N, e, h⟩ := R_pI (ci := 0) (k := 51) (j := 1) (v := 0) h rfl
  rw [e, ob_t]
  replace h : Rel N as144 := h
  clear e l
  have l : N.1.length = 53 := by rw [h.1]; rfl
  try simp only [l]
  obtain ⟨N, e, h⟩ := R_pI (ci := 0) (k := 51) (j := 2) (v := 0) h rfl
  rw [e, ob_t]
  replace h : Rel N as145 := h
  clear e l
  have l : N.1.length = 53 := by rw [h.1]; rfl
  try simp only [l]
  rw [ob_t]
  try simp only [l]
  obtain ⟨N, e, h⟩ := R_pQ (ci := 8) (k := 0) (j := 10) (v := some 51) h rfl
  rw [e, ob_t]
  replace h : Rel N as146 := h
  clear e l
  have l : N.1.length = 53 := by rw [h.1]; rfl
  try simp only [l]
  obtain ⟨N, e, h⟩ := R_nO (ci := 5) (n := 4) h rfl
  rw [e, ob_t]
  replace h : Rel N as147 := h
  clear e l
  have l : N.1.length = 54 := by rw [h.1]; rfl
  try simp only [l]
  try unfold F_X5_init
  try simp only [l]
  obtain ⟨N, e, h⟩ := R_nA (kd := 100) (n := 8) (x := 8) rfl (by decide) h rfl
  rw [e, ob_t]
  replace h : Rel N as148 := h
  clear e l
  have l : N.1.length = 55 := by rw [h.1]; rfl
  try simp only [l]
  obtain ⟨N, e, h⟩ := R_pQ (ci := 5) (k := 53) (j := 0) (v := some 54) h rfl
  rw [e, ob_t]
  replace h : Rel N as149 := h
  clear e l
  have l : N.1.length = 55 := by rw [h.1]; rfl
  try simp only [l]
  obtain ⟨N, e, h⟩ := R_nA (kd := 100) (n := 8) (x := 8) rfl (by decide) h rfl
  rw [e, ob_t]
  replace h : Rel N as150 := h
  clear e l
  have l : N.1.length = 56 := by rw [h.1]; rfl
  try simp only [l]
  obtain ⟨N, e, h⟩ := R_pQ (ci := 5) (k := 53) (j := 1) (v := some 55) h rfl
  rw [e, ob_t]
  replace h : Rel N as151 := h
  clear e l
  have l : N.1.length = 56 := by rw [h.1]; rfl
  try simp only [l]
  obtain ⟨N, e, h⟩ := R_nA (kd := 100) (n := 8) (x := 8) rfl (by decide) h rfl
  rw [e, ob_t]
  replace h : Rel N as152 := h
  clear e l
  have l : N.1.length = 57 := by rw [h.1]; rfl
  try simp only [l]
  obtain ⟨N, e, h⟩ := R_pQ (ci := 5) (k := 53) (j := 2) (v := some 56) h rfl
  rw [e, ob_t]
  replace h : Rel N as153 := h
  clear e l
  have l : N.1.length = 57 := by rw [h.1]; rfl
  try simp only [l]
  obtain ⟨N, e, h⟩ := R_pI (ci := 5) (k := 53) (j := 3) (v := 0) h rfl
  rw [e, ob_t]
  replace h : Rel N as154 := h
  clear e l
  have l : N.1.length = 57 := by rw [h.1]; rfl
  try simp only [l]
  rw [ob_t]
  try simp only [l]
  obtain ⟨N, e, h⟩ := R_pQ (ci := 8) (k := 0) (j := 11) (v := some 53) h rfl
  rw [e, ob_t]
  replace h : Rel N as155 := h
  clear e l
  have l : N.1.length = 57 := by rw [h.1]; rfl
  try simp only [l]
  obtain ⟨N, e, h⟩ := R_nA (kd := 100) (n := 3) (x := 3) rfl (by decide) h rfl
  rw [e, ob_t]
  replace h : Rel N as156 := h
  clear e l
  have l : N.1.length = 58 := by rw [h.1]; rfl
  try simp only [l]
  obtain ⟨N, e, h⟩ := R_pQ (ci := 8) (k := 0) (j := 12) (v := some 57) h rfl
  rw [e, ob_t]
  replace h : Rel N as157 := h
  clear e l
  have l : N.1.length = 58 := by rw [h.1]; rfl
  try simp only [l]
  obtain ⟨N, e, h⟩ := R_nO (ci := 1) (n := 4) h rfl
  rw [e, ob_t]
  replace h : Rel N as158 := h
  clear e l
  have l : N.1.length = 59 := by rw [h.1]; rfl
  try simp only [l]
  try unfold F_X1_init
  try simp only [l]
  obtain ⟨N, e, h⟩ := R_nA (kd := 100) (n := 256) (x := 256) rfl (by decide) h rfl
  rw [e, ob_t]
  replace h : Rel N as159 := h
  clear e l
  have l : N.1.length = 60 := by rw [h.1]; rfl
  try simp only [l]
  obtain ⟨N, e, h⟩ := R_pQ (ci := 1) (k := 58) (j := 0) (v := some 59) h rfl
  rw [e, ob_t]
  replace h : Rel N as160 := h
  clear e l
  have l : N.1.length = 60 := by rw [h.1]; rfl
  try simp only [l]
  obtain ⟨N, e, h⟩ := R_nA (kd := 100) (n := 256) (x := 256) rfl (by decide) h rfl
  rw [e, ob_t]
  replace h : Rel N as161 := h
  clear e l
  have l : N.1.length = 61 := by rw [h.1]; rfl
  try simp only [l]
  obtain ⟨N, e, h⟩ := R_pQ (ci := 1) (k := 58) (j := 1) (v := some 60) h rfl
  rw [e, ob_t]
  replace h : Rel N as162 := h
  clear e l
  have l : N.1.length = 61 := by rw [h.1]; rfl
  try simp only [l]
  obtain ⟨N, e, h⟩ := R_nA (kd := 100) (n := 8) (x := 8) rfl (by decide) h rfl
  rw [e, ob_t]
  replace h : Rel N as163 := h
  clear e l
  have l : N.1.length = 62 := by rw [h.1]; rfl
  try simp only [l]
  obtain ⟨N, e, h⟩ := R_pQ (ci := 1) (k := 58) (j := 2) (v := some 61) h rfl
  rw [e, ob_t]
  replace h : Rel N as164 := h
  clear e l
  have l : N.1.length = 62 := by rw [h.1]; rfl
  try simp only [l]
  obtain ⟨N, e, h⟩ := R_pI (ci := 1) (k := 58) (j := 3) (v := 0) h rfl
  rw [e, ob_t]
  replace h : Rel N as165 := h
  clear e l
  have l : N.1.length = 62 := by rw [h.1]; rfl
  try simp only [l]
  rw [ob_t]
  try simp only [l]
  obtain ⟨N, e, h⟩ := R_pQ (ci := 8) (k := 0) (j := 13) (v := some 58) h rfl
  rw [e, ob_t]
  replace h : Rel N as166 := h
  clear e l
  have l : N.1.length = 62 := by rw [h.1]; rfl
  try simp only [l]
  obtain ⟨N, e, h⟩ := R_nO (ci := 7) (n := 3) h rfl
  rw [e, ob_t]
  replace h : Rel N as167 := h
  clear e l
  have l : N.1.length = 63 := by rw [h.1]; rfl
  try simp only [l]
  try unfold F_X7_init
  try simp only [l]
  obtain ⟨N, e, h⟩ := R_nA (kd := 100) (n := 8) (x := 8) rfl (by decide) h rfl
  rw [e, ob_t]
  replace h : Rel N as168 := h
  clear e l
  have l : N.1.length = 64 := by rw [h.1]; rfl
  try simp only [l]
  obtain ⟨N, e, h⟩ := R_pQ (ci := 7) (k := 62) (j := 0) (v := some 63) h rfl
  rw [e, ob_t]
  replace h : Rel N as169 := h
  clear e l
  have l : N.1.length = 64 := by rw [h.1]; rfl
  try simp only [l]
  obtain ⟨N, e, h⟩ := R_nA (kd := 100) (n := 8) (x := 8) rfl (by decide) h rfl
  rw [e, ob_t]
  replace h : Rel N as170 := h
  clear e l
  have l : N.1.length = 65 := by rw [h.1]; rfl
  try simp only [l]
  obtain ⟨N, e, h⟩ := R_pQ (ci := 7) (k := 62) (j := 1) (v := some 64) h rfl
  rw [e, ob_t]
  replace h : Rel N as171 := h
  clear e l
  have l : N.1.length = 65 := by rw [h.1]; rfl
  try simp only [l]
  obtain ⟨N, e, h⟩ := R_nA (kd := 100) (n := 8) (x := 8) rfl (by decide) h rfl
  rw [e, ob_t]
  replace h : Rel N as172 := h
  clear e l
  have l : N.1.length = 66 := by rw [h.1]; rfl
  try simp only [l]
  obtain ⟨N, e, h⟩ := R_pQ (ci := 7) (k := 62) (j := 2) (v := some 65) h rfl
  rw [e, ob_t]
  replace h : Rel N as173 := h
  clear e l
  have l : N.1.length = 66 := by rw [h.1]; rfl
  try simp only [l]
  rw [ob_t]
  try simp only [l]
  obtain ⟨N, e, h⟩ := R_pQ (ci := 8) (k := 0) (j := 14) (v := some 62) h rfl
  rw [e, ob_t]
  replace h : Rel N as174 := h
  clear e l
  have l : N.1.length = 66 := by rw [h.1]; rfl
  try simp only [l]
  obtain ⟨N, e, h⟩ := R_nA (kd := 103) (n := 8) (x := 8) rfl (by decide) h rfl
  rw [e, ob_t]
  replace h : Rel N as175 := h
  clear e l
  have l : N.1.length = 67 := by rw [h.1]; rfl
  try simp only [l]
  obtain ⟨N, e, h⟩ := R_pQ (ci := 8) (k := 0) (j := 15) (v := some 66) h rfl
  rw [e, ob_t]
  replace h : Rel N as176 := h
  clear e l
  have l : N.1.length = 67 := by rw [h.1]; rfl
  try simp only [l]
  exact ⟨N, rfl, h⟩
def bs0 : AS := (as176.1 ++ [(9, 0)], as176.2.1 + 62, as176.2.2)
def as177 : AS := (bs0.1, bs0.2.1, bs0.2.2.1, (67, 4, -1) :: bs0.2.2.2.1, bs0.2.2.2.2)
def as178 : AS := (as177.1, as177.2.1, as177.2.2.1, (67, 5, -1) :: as177.2.2.2.1, as177.2.2.2.2)
def as179 : AS := (as178.1 ++ [(100, 8)], as178.2.1 + 8, as178.2.2)
def as180 : AS := (as179.1, as179.2.1, (67, 6, some 68) :: as179.2.2.1, as179.2.2.2.1, as179.2.2.2.2)
def as181 : AS := (as180.1 ++ [(100, 8)], as180.2.1 + 8, as180.2.2)
def as182 : AS := (as181.1, as181.2.1, (67, 7, some 69) :: as181.2.2.1, as181.2.2.2.1, as181.2.2.2.2)
def as183 : AS := (as182.1 ++ [(100, 8)], as182.2.1 + 8, as182.2.2)
def as184 : AS := (as183.1, as183.2.1, (67, 8, some 70) :: as183.2.2.1, as183.2.2.2.1, as183.2.2.2.2)
def as185 : AS := (as184.1 ++ [(100, 8)], as184.2.1 + 8, as184.2.2)
def as186 : AS := (as185.1, as185.2.1, (67, 9, some 71) :: as185.2.2.1, as185.2.2.2.1, as185.2.2.2.2)
def as187 : AS := (as186.1 ++ [(100, 1400)], as186.2.1 + 1400, as186.2.2)
def as188 : AS := (as187.1, as187.2.1, (67, 10, some 72) :: as187.2.2.1, as187.2.2.2.1, as187.2.2.2.2)
def as189 : AS := (as188.1 ++ [(100, 700)], as188.2.1 + 700, as188.2.2)
def as190 : AS := (as189.1, as189.2.1, (67, 11, some 73) :: as189.2.2.1, as189.2.2.2.1, as189.2.2.2.2)
def as191 : AS := (as190.1, as190.2.1, as190.2.2.1, (67, 14, -1) :: as190.2.2.2.1, as190.2.2.2.2)
def as192 : AS := (as191.1 ++ [(100, 3)], as191.2.1 + 3, as191.2.2)
def as193 : AS := (as192.1, as192.2.1, (67, 15, some 74) :: as192.2.2.1, as192.2.2.2.1, as192.2.2.2.2)
def as194 : AS := (as193.1 ++ [(100, 8)], as193.2.1 + 8, as193.2.2)
def as195 : AS := (as194.1, as194.2.1, (67, 33, some 75) :: as194.2.2.1, as194.2.2.2.1, as194.2.2.2.2)
def as196 : AS := (as195.1 ++ [(100, 8)], as195.2.1 + 8, as195.2.2)
def as197 : AS := (as196.1, as196.2.1, (67, 34, some 76) :: as196.2.2.1, as196.2.2.2.1, as196.2.2.2.2)
def as198 : AS := (as197.1 ++ [(100, 8)], as197.2.1 + 8, as197.2.2)
def as199 : AS := (as198.1, as198.2.1, (67, 35, some 77) :: as198.2.2.1, as198.2.2.2.1, as198.2.2.2.2)
def as200 : AS := (as199.1 ++ [(100, 8)], as199.2.1 + 8, as199.2.2)
def as201 : AS := (as200.1, as200.2.1, (67, 36, some 78) :: as200.2.2.1, as200.2.2.2.1, as200.2.2.2.2)
def as202 : AS := (as201.1 ++ [(100, 43)], as201.2.1 + 43, as201.2.2)
def as203 : AS := (as202.1, as202.2.1, (67, 37, some 79) :: as202.2.2.1, as202.2.2.2.1, as202.2.2.2.2)
def as204 : AS := (as203.1 ++ [(100, 1400)], as203.2.1 + 1400, as203.2.2)
def as205 : AS := (as204.1, as204.2.1, (67, 38, some 80) :: as204.2.2.1, as204.2.2.2.1, as204.2.2.2.2)
def as206 : AS := (as205.1 ++ [(100, 950)], as205.2.1 + 950, as205.2.2)
def as207 : AS := (as206.1, as206.2.1, (67, 39, some 81) :: as206.2.2.1, as206.2.2.2.1, as206.2.2.2.2)
def as208 : AS := (as207.1 ++ [(102, 9)], as207.2.1 + 9, as207.2.2)
def as209 : AS := (as208.1, as208.2.1, (67, 40, some 82) :: as208.2.2.1, as208.2.2.2.1, as208.2.2.2.2)
def as210 : AS := (as209.1 ++ [(100, 86)], as209.2.1 + 86, as209.2.2)
def as211 : AS := (as210.1, as210.2.1, (67, 41, some 83) :: as210.2.2.1, as210.2.2.2.1, as210.2.2.2.2)
def as212 : AS := (as211.1 ++ [(100, 1720)], as211.2.1 + 1720, as211.2.2)
def as213 : AS := (as212.1, as212.2.1, (67, 42, some 84) :: as212.2.2.1, as212.2.2.2.1, as212.2.2.2.2)
def as214 : AS := (as213.1 ++ [(100, 7)], as213.2.1 + 7, as213.2.2)
def as215 : AS := (as214.1, as214.2.1, (67, 44, some 85) :: as214.2.2.1, as214.2.2.2.1, as214.2.2.2.2)
def as216 : AS := (as215.1 ++ [(100, 950)], as215.2.1 + 950, as215.2.2)
def as217 : AS := (as216.1, as216.2.1, (67, 45, some 86) :: as216.2.2.1, as216.2.2.2.1, as216.2.2.2.2)
def as218 : AS := (as217.1, as217.2.1, as217.2.2.1, (67, 46, -1) :: as217.2.2.2.1, as217.2.2.2.2)
def as219 : AS := (as218.1 ++ [(100, 2304)], as218.2.1 + 2304, as218.2.2)
def as220 : AS := (as219.1, as219.2.1, (67, 47, some 87) :: as219.2.2.1, as219.2.2.2.1, as219.2.2.2.2)
def as221 : AS := (as220.1 ++ [(100, 8)], as220.2.1 + 8, as220.2.2)
def as222 : AS := (as221.1, as221.2.1, (67, 48, some 88) :: as221.2.2.1, as221.2.2.2.1, as221.2.2.2.2)
def as223 : AS := (as222.1 ++ [(100, 8)], as222.2.1 + 8, as222.2.2)
def as224 : AS := (as223.1, as223.2.1, (67, 49, some 89) :: as223.2.2.1, as223.2.2.2.1, as223.2.2.2.2)
def as225 : AS := (as224.1 ++ [(100, 8)], as224.2.1 + 8, as224.2.2)
def as226 : AS := (as225.1, as225.2.1, (67, 50, some 90) :: as225.2.2.1, as225.2.2.2.1, as225.2.2.2.2)
def as227 : AS := (as226.1 ++ [(100, 24)], as226.2.1 + 24, as226.2.2)
def as228 : AS := (as227.1, as227.2.1, (67, 52, some 91) :: as227.2.2.1, as227.2.2.2.1, as227.2.2.2.2)
def as229 : AS := (as228.1 ++ [(100, 8)], as228.2.1 + 8, as228.2.2)
def as230 : AS := (as229.1, as229.2.1, (67, 53, some 92) :: as229.2.2.1, as229.2.2.2.1, as229.2.2.2.2)
def as231 : AS := (as230.1 ++ [(100, 3840)], as230.2.1 + 3840, as230.2.2)
def as232 : AS := (as231.1, as231.2.1, (67, 54, some 93) :: as231.2.2.1, as231.2.2.2.1, as231.2.2.2.2)
def as233 : AS := (as232.1 ++ [(100, 43)], as232.2.1 + 43, as232.2.2)
def as234 : AS := (as233.1, as233.2.1, (67, 59, some 94) :: as233.2.2.1, as233.2.2.2.1, as233.2.2.2.2)
def as235 : AS := (as234.1 ++ [(100, 1720)], as234.2.1 + 1720, as234.2.2)
def as236 : AS := (as235.1, as235.2.1, (67, 60, some 95) :: as235.2.2.1, as235.2.2.2.1, as235.2.2.2.2)
def as237 : AS := (as236.1 ++ [(100, 24)], as236.2.1 + 24, as236.2.2)
def as238 : AS := (as237.1, as237.2.1, (67, 61, some 96) :: as237.2.2.1, as237.2.2.2.1, as237.2.2.2.2)
theorem init9 {M : Mem} (h : Rel M bs0) : ∃ M', F_X9_init 67 M = some M' ∧ Rel M' as238 := by
  unfold F_X9_init
  have l : M.1.length = 68 := by rw [h.1]; rfl
  try simp only [l]
  obtain ⟨N, e, h⟩ := R_pI (ci := 9) (k := 67) (j := 4) (v := -1) h rfl
  rw [e, ob_t]
  replace h : Rel N as177 := h
  clear e l
  have l : N.1.length = 68 := by rw [h.1]; rfl
  try simp only [l]
  obtain ⟨N, e, h⟩ := R_pI (ci := 9) (k := 67) (j := 5) (v := -1) h rfl
  rw [e, ob_t]
  replace h : Rel N as178 := h
  clear e l
  have l : N.1.length = 68 := by rw [h.1]; rfl
  try simp only [l]
  obtain ⟨N, e, h⟩ := R_nA (kd := 100) (n := 8) (x := 8) rfl (by decide) h rfl
  rw [e, ob_t]
  replace h : Rel N as179 := h
  clear e l
  have l : N.1.length = 69 := by rw [h.1]; rfl
  try simp only [l]
  obtain ⟨N, e, h⟩ := R_pQ (ci := 9) (k := 67) (j := 6) (v := some 68) h rfl
  rw [e, ob_t]
  replace h : Rel N as180 := h
  clear e l
  have l : N.1.length = 69 := by rw [h.1]; rfl
  try simp only [l]
  obtain ⟨N, e, h⟩ := R_nA (kd := 100) (n := 8) (x := 8) rfl (by decide) h rfl
  rw [e, ob_t]
  replace h : Rel N as181 := h
  clear e l
  have l : N.1.length = 70 := by rw [h.1]; rfl
  try simp only [l]
  obtain ⟨N, e, h⟩ := R_pQ (ci := 9) (k := 67) (j := 7) (v := some 69) h rfl
  rw [e, ob_t]
  replace h : Rel N as182 := h
  clear e l
  have l : N.1.length = 70 := by rw [h.1]; rfl
  try simp only [l]
  obtain ⟨N, e, h⟩ := R_nA (kd := 100) (n := 8) (x := 8) rfl (by decide) h rfl
  rw [e, ob_t]
  replace h : Rel N as183 := h
  clear e l
  have l : N.1.length = 71 := by rw [h.1]; rfl
  try simp only [l]
  obtain ⟨N, e, h⟩ := R_pQ (ci := 9) (k := 67) (j := 8) (v := some 70) h rfl
  rw [e, ob_t]
  replace h : Rel N as184 := h
  clear e l
  have l : N.1.length = 71 := by rw [h.1]; rfl
  try simp only [l]
  obtain ⟨N, e, h⟩ := R_nA (kd := 100) (n := 8) (x := 8) rfl (by decide) h rfl
  rw [e, ob_t]
  replace h : Rel N as185 := h
  clear e l
  have l : N.1.length = 72 := by rw [h.1]; rfl
  try simp only [l]
  obtain ⟨N, e, h⟩ := R_pQ (ci := 9) (k := 67) (j := 9) (v := some 71) h rfl
  rw [e, ob_t]
  replace h : Rel N as186 := h
  clear e l
  have l : N.1.length = 72 := by rw [h.1]; rfl
  try simp only [l]
  obtain ⟨N, e, h⟩ := R_nA (kd := 100) (n := 1400) (x := 1400) rfl (by decide) h rfl
  rw [e, ob_t]
  replace h : Rel N as187 := h
  clear e l
  have l : N.1.length = 73 := by rw [h.1]; rfl
  try simp only [l]
  obtain ⟨N, e, h⟩ := R_pQ (ci := 9) (k := 67) (j := 10) (v := some 72) h rfl
  rw [e, ob_t]
  replace h : Rel N as188 := h
  clear e l
  have l : N.1.length = 73 := by rw [h.1]; rfl
  try simp only [l]
  obtain ⟨N, e, h⟩ := R_nA (kd := 100) (n := 700) (x := 700) rfl (by decide) h rfl
  rw [e, ob_t]
  replace h : Rel N as189 := h
  clear e l
  have l : N.1.length = 74 := by rw [h.1]; rfl
  try simp only [l]
  obtain ⟨N, e, h⟩ := R_pQ (ci := 9) (k := 67) (j := 11) (v := some 73) h rfl
  rw [e, ob_t]
  replace h : Rel N as190 := h
  clear e l
  have l : N.1.length = 74 := by rw [h.1]; rfl
  try simp only [l]
  obtain ⟨N, e, h⟩ := R_pI (ci := 9) (k := 67) (j := 14) (v := -1) h rfl
  rw [e, ob_t]
  replace h : Rel N as191 := h
  clear e l
  have l : N.1.length = 74 := by rw [h.1]; rfl
  try simp only [l]
  obtain ⟨N, e, h⟩ := R_nA (kd := 100) (n := 3) (x := 3) rfl (by decide) h rfl
  rw [e, ob_t]
  replace h : Rel N as192 := h
  clear e l
  have l : N.1.length = 75 := by rw [h.1]; rfl
  try simp only [l]
  obtain ⟨N, e, h⟩ := R_pQ (ci := 9) (k := 67) (j := 15) (v := some 74) h rfl
  rw [e, ob_t]
  replace h : Rel N as193 := h
  clear e l
  have l : N.1.length = 75 := by rw [h.1]; rfl
  try simp only [l]
  obtain ⟨N, e, h⟩ := R_nA (kd := 100) (n := 8) (x := 8) rfl (by decide) h rfl
  rw [e, ob_t]
  replace h : Rel N as194 := h
  clear e l
  have l : N.1.length = 76 := by rw [h.1]; rfl
  try simp only [l]
  obtain ⟨N, e, h⟩ := R_pQ (ci := 9) (k := 67) (j := 33) (v := some 75) h rfl
  rw [e, ob_t]
  replace h : Rel N as195 := h
  clear e l
  have l : N.1.length = 76 := by rw [h.1]; rfl
  try simp only [l]
  obtain ⟨N, e, h⟩ := R_nA (kd := 100) (n := 8) (x := 8) rfl (by decide) h rfl
  rw [e, ob_t]
  replace h : Rel N as196 := h
  clear e l
  have l : N.1.length = 77 := by rw [h.1]; rfl
  try simp only [l]
  obtain ⟨N, e, h⟩ := R_pQ (ci := 9) (k := 67) (j := 34) (v := some 76) h rfl
  rw [e, ob_t]
  replace h : Rel N as197 := h
  clear e l
  have l : N.1.length = 77 := by rw [h.1]; rfl
  try simp only [l]
  obtain ⟨N, e, h⟩ := R_nA (kd := 100) (n := 8) (x := 8) rfl (by decide) h rfl
  rw [e, ob_t]
  replace h : Rel N as198 := h
  clear e l
  have l : N.1.length = 78 := by rw [h.1]; rfl
  try simp only [l]
  obtain ⟨N, e, h⟩ := R_pQ (ci := 9) (k := 67) (j := 35) (v := some 77) h rfl
  rw [e, ob_t]
  replace h : Rel N as199 := h
  clear e l
  have l : N.1.length = 78 := by rw [h.1]; rfl
  try simp only [l]
  obtain ⟨N, e, h⟩ := R_nA (kd := 100) (n := 8) (x := 8) rfl (by decide) h rfl
  rw [e, ob_t]
  replace h : Rel N as200 := h
  clear e l
  have l : N.1.length = 79 := by rw [h.1]; rfl
  try simp only [l]
  obtain ⟨N, e, h⟩ := R_pQ (ci := 9) (k := 67) (j := 36) (v := some 78) h rfl
  rw [e, ob_t]
  replace h : Rel N as201 := h
  clear e l
  have l : N.1.length = 79 := by rw [h.1]; rfl
  try simp only [l]
  obtain ⟨N, e, h⟩ := R_nA (kd := 100) (n := 43) (x := 43) rfl (by decide) h rfl
  rw [e, ob_t]
  replace h : Rel N as202 := h
  clear e l
  have l : N.1.length = 80 := by rw [h.1]; rfl
  try simp only [l]
  obtain ⟨N, e, h⟩ := R_pQ (ci := 9) (k := 67) (j := 37) (v := some 79) h rfl
  rw [e, ob_t]
  replace h : Rel N as203 := h
  clear e l
  have l : N.1.length = 80 := by rw [h.1]; rfl
  try simp only [l]
  obtain ⟨N, e, h⟩ := R_nA (kd := 100) (n := 1400) (x := 1400) rfl (by decide) h rfl
  rw [e, ob_t]
  replace h : Rel N as204 := h
  clear e l
  have l : N.1.length = 81 := by rw [h.1]; rfl
  try simp only [l]
  obtain ⟨N, e, h⟩ := R_pQ (ci := 9) (k := 67) (j := 38) (v := some 80) h rfl
  rw [e, ob_t]
  replace h : Rel N as205 := h
  clear e l
  have l : N.1.length = 81 := by rw [h.1]; rfl
  try simp only [l]
  obtain ⟨N, e, h⟩ := R_nA (kd := 100) (n := 950) (x := 950) rfl (by decide) h rfl
  rw [e, ob_t]
  replace h : Rel N as206 := h
  clear e l
  have l : N.1.length = 82 := by rw [h.1]; rfl
  try simp only [l]
  obtain ⟨N, e, h⟩ := R_pQ (ci := 9) (k := 67) (j := 39) (v := some 81) h rfl
  rw [e, ob_t]
  replace h : Rel N as207 := h
  clear e l
  have l : N.1.length = 82 := by rw [h.1]; rfl
  try simp only [l]
  obtain ⟨N, e, h⟩ := R_nA (kd := 102) (n := 9) (x := 9) rfl (by decide) h rfl
  rw [e, ob_t]
  replace h : Rel N as208 := h
  clear e l
  have l : N.1.length = 83 := by rw [h.1]; rfl
  try simp only [l]
  obtain ⟨N, e, h⟩ := R_pQ (ci := 9) (k := 67) (j := 40) (v := some 82) h rfl
  rw [e, ob_t]
  replace h : Rel N as209 := h
  clear e l
  have l : N.1.length = 83 := by rw [h.1]; rfl
  try simp only [l]
  obtain ⟨N, e, h⟩ := R_nA (kd := 100) (n := 86) (x := 86) rfl (by decide) h rfl
  rw [e, ob_t]
  replace h : Rel N as210 := h
  clear e l
  have l : N.1.length = 84 := by rw [h.1]; rfl
  try simp only [l]
  obtain ⟨N, e, h⟩ := R_pQ (ci := 9) (k := 67) (j := 41) (v := some 83) h rfl
  rw [e, ob_t]
  replace h : Rel N as211 := h
  clear e l
  have l : N.1.length = 84 := by rw [h.1]; rfl
  try simp only [l]
  obtain ⟨N, e, h⟩ := R_nA (kd := 100) (n := 1720) (x := 1720) rfl (by decide) h rfl
  rw [e, ob_t]
  replace h : Rel N as212 := h
  clear e l
  have l : N.1.length = 85 := by rw [h.1]; rfl
  try simp only [l]
  obtain ⟨N, e, h⟩ := R_pQ (ci := 9) (k := 67) (j := 42) (v := some 84) h rfl
  rw [e, ob_t]
  replace h : Rel N as213 := h
  clear e l
  have l : N.1.length = 85 := by rw [h.1]; rfl
  try simp only [l]
  obtain ⟨N, e, h⟩ := R_nA (kd := 100) (n := 7) (x := 7) rfl (by decide) h rfl
  rw [e, ob_t]
  replace h : Rel N as214 := h
  clear e l
  have l : N.1.length = 86 := by rw [h.1]; rfl
  try simp only [l]
  obtain ⟨N, e, h⟩ := R_pQ (ci := 9) (k := 67) (j := 44) (v := some 85) h rfl
  rw [e, ob_t]
  replace h : Rel N as215 := h
  clear e l
  have l : N.1.length = 86 := by rw [h.1]; rfl
  try simp only [l]
  obtain ⟨N, e, h⟩ := R_nA (kd := 100) (n := 950) (x := 950) rfl (by decide) h rfl
  rw [e, ob_t]
  replace h : Rel N as216 := h
  clear e l
  have l : N.1.length = 87 := by rw [h.1]; rfl
  try simp only [l]
  obtain ⟨N, e, h⟩ := R_pQ (ci := 9) (k := 67) (j := 45) (v := some 86) h rfl
  rw [e, ob_t]
  replace h : Rel N as217 := h
  clear e l
  have l : N.1.length = 87 := by rw [h.1]; rfl
  try simp only [l]
  obtain ⟨N, e, h⟩ := R_pI (ci := 9) (k := 67) (j := 46) (v := -1) h rfl
  rw [e, ob_t]
  replace h : Rel N as218 := h
  clear e l
  have l : N.1.length = 87 := by rw [h.1]; rfl
  try simp only [l]
  obtain ⟨N, e, h⟩ := R_nA (kd := 100) (n := 2304) (x := 2304) rfl (by decide) h rfl
  rw [e, ob_t]
  replace h : Rel N as219 := h
  clear e l
  have l : N.1.length = 88 := by rw [h.1]; rfl
  try simp only [l]
  obtain ⟨N, e, h⟩ := R_pQ (ci := 9) (k := 67) (j := 47) (v := some 87) h rfl
  rw [e, ob_t]
  replace h : Rel N as220 := h
  clear e l
  have l : N.1.length = 88 := by rw [h.1]; rfl
  try simp only [l]
  obtain ⟨N, e, h⟩ := R_nA (kd := 100) (n := 8) (x := 8) rfl (by decide) h rfl
  rw [e, ob_t]
  replace h : Rel N as221 := h
  clear e l
  have l : N.1.length = 89 := by rw [h.1]; rfl
  try simp only [l]
  obtain ⟨N, e, h⟩ := R_pQ (ci := 9) (k := 67) (j := 48) (v := some 88) h rfl
  rw [e, ob_t]
  replace h : Rel N as222 := h
  clear e l
  have l : N.1.length = 89 := by rw [h.1]; rfl
  try simp only [l]
  obtain ⟨N, e, h⟩ := R_nA (kd := 100) (n := 8) (x := 8) rfl (by decide) h rfl
  rw [e, ob_t]
  replace h : Rel N as223 := h
  clear e l
  have l : N.1.length = 90 := by rw [h.1]; rfl
  try simp only [l]
  obtain ⟨N, e, h⟩ := R_pQ (ci := 9) (k := 67) (j := 49) (v := some 89) h rfl
  rw [e, ob_t]
  replace h : Rel N as224 := h
  clear e l
  have l : N.1.length = 90 := by rw [h.1]; rfl
  try simp only [l]
  obtain ⟨N, e, h⟩ := R_nA (kd := 100) (n := 8) (x := 8) rfl (by decide) h rfl
  rw [e, ob_t]
  replace h : Rel N as225 := h
  clear e l
  have l : N.1.length = 91 := by rw [h.1]; rfl
  try simp only [l]
  obtain ⟨N, e, h⟩ := R_pQ (ci := 9) (k := 67) (j := 50) (v := some 90) h rfl
  rw [e, ob_t]
  replace h : Rel N as226 := h
  clear e l
  have l : N.1.length = 91 := by rw [h.1]; rfl
  try simp only [l]
  obtain ⟨N, e, h⟩ := R_nA (kd := 100) (n := 24) (x := 24) rfl (by decide) h rfl
  rw [e, ob_t]
  replace h : Rel N as227 := h
  clear e l
  have l : N.1.length = 92 := by rw [h.1]; rfl
  try simp only [l]
  obtain ⟨N, e, h⟩ := R_pQ (ci := 9) (k := 67) (j := 52) (v := some 91) h rfl
  rw [e, ob_t]
  replace h : Rel N as228 := h
  clear e l
  have l : N.1.length = 92 := by rw [h.1]; rfl
  try simp only [l]
  obtain ⟨N, e, h⟩ := R_nA (kd := 100) (n := 8) (x := 8) rfl (by decide) h rfl
  rw [e, ob_t]
  replace h : Rel N as229 := h
  clear e l
  have l : N.1.length = 93 := by rw [h.1]; rfl
  try simp only [l]
  obtain ⟨N, e, h⟩ := R_pQ (ci := 9) (k := 67) (j := 53) (v := some 92) h rfl
  rw [e, ob_t]
  replace h : Rel N as230 := h
  clear e l
  have l : N.1.length = 93 := by rw [h.1]; rfl
  try simp only [l]
  obtain ⟨N, e, h⟩ := R_nA (kd := 100) (n := 3840) (x := 3840) rfl (by decide) h rfl
  rw [e, ob_t]
  replace h : Rel N as231 := h
  clear e l
  have l : N.1.length = 94 := by rw [h.1]; rfl
  try simp only [l]
  obtain ⟨N, e, h⟩ := R_pQ (ci := 9) (k := 67) (j := 54) (v := some 93) h rfl
  rw [e, ob_t]
  replace h : Rel N as232 := h
  clear e l
  have l : N.1.length = 94 := by rw [h.1]; rfl
  try simp only [l]
  obtain ⟨N, e, h⟩ := R_nA (kd := 100) (n := 43) (x := 43) rfl (by decide) h rfl
  rw [e, ob_t]
  replace h : Rel N as233 := h
  clear e l
  have l : N.1.length = 95 := by rw [h.1]; rfl
  try simp only [l]
  obtain ⟨N, e, h⟩ := R_pQ (ci := 9) (k := 67) (j := 59) (v := some 94) h rfl
  rw [e, ob_t]
  replace h : Rel N as234 := h
  clear e l
  have l : N.1.length = 95 := by rw [h.1]; rfl
  try simp only [l]
  obtain ⟨N, e, h⟩ := R_nA (kd := 100) (n := 1720) (x := 1720) rfl (by decide) h rfl
  rw [e, ob_t]
  replace h : Rel N as235 := h
  clear e l
  have l : N.1.length = 96 := by rw [h.1]; rfl
  try simp only [l]
  obtain ⟨N, e, h⟩ := R_pQ (ci := 9) (k := 67) (j := 60) (v := some 95) h rfl
  rw [e, ob_t]
  replace h : Rel N as236 := h
  clear e l
  have l : N.1.length = 96 := by rw [h.1]; rfl
  try simp only [l]
  obtain ⟨N, e, h⟩ := R_nA (kd := 100) (n := 24) (x := 24) rfl (by decide) h rfl
  rw [e, ob_t]
  replace h : Rel N as237 := h
  clear e l
  have l : N.1.length = 97 := by rw [h.1]; rfl
  try simp only [l]
  obtain ⟨N, e, h⟩ := R_pQ (ci := 9) (k := 67) (j := 61) (v := some 96) h rfl
  rw [e, ob_t]
  replace h : Rel N as238 := h
  clear e l
  have l : N.1.length = 97 := by rw [h.1]; rfl
  try simp only [l]
  exact ⟨N, rfl, h⟩
def cs0 : AS := (as238.1 ++ [(103, 1)], as238.2.1 + 1, as238.2.2)
theorem init_all : ∃ M4 M9, (nO M00 8 16).bind (fun M1 => F_X8_init 0 M1) = some M4 ∧ M4.1.length = 67 ∧ (nO M4 9 62).bind (fun M6 => F_X9_init 67 M6) = some M9 ∧ M9.1.length = 97 ∧ ∃ M11, nA M9 103 1 = some M11 ∧ Rel M11 cs0 := by
  have h00 : Rel M00 ([], 0, [], [], []) := ⟨rfl, rfl, fun _ _ hk => by simp at hk, fun _ _ hk => by simp at hk, fun e he => by simp at he, fun e he => by simp at he⟩
  obtain ⟨M1, e1, h1⟩ := R_nO (ci := 8) (n := 16) h00 rfl
  have h1 : Rel M1 as0 := h1
  obtain ⟨M4, e4, h4⟩ := init8 h1
  obtain ⟨M6, e6, h6⟩ := R_nO (ci := 9) (n := 62) h4 rfl
  have h6 : Rel M6 bs0 := h6
  obtain ⟨M9, e9, h9⟩ := init9 h6
  obtain ⟨M11, e11, h11⟩ := R_nA (kd := 103) (n := 1) (x := 1) rfl (by decide) h9 rfl
  exact ⟨M4, M9, by rw [e1, ob_t, e4], by rw [h4.1]; rfl, by rw [e6, ob_t, e9], by rw [h9.1]; rfl, M11, e11, h11⟩

theorem cs_len : cs0.1.length = 98 := by decide +kernel
theorem cs_tags : cs0.1 = TG0 := by decide +kernel
theorem cs_ptr : PT0.all (fun q => lkP cs0.2.2.1 q.1 q.2.1 == some q.2.2) = true := by decide +kernel
def g00 : Pg := (0, 0, 0, fun _ => 0, fun _ => 0, fun _ => 0, fun _ => 0, none, none)
def s00 : Sg := (0, 0, 0, fun _ => 0, fun _ => 0, fun _ => 0, fun _ => 0, fun _ => 0)
theorem lkI_row {P : List (Nat × Nat × Int32)} {k : Nat} (h : P.all (fun e => !decide (e.1 = k)) = true) (j : Nat) : lkI P k j = 0 := by
  induction P with
  | nil => rfl
  | cons e r ih =>
    simp only [List.all_cons, Bool.and_eq_true, Bool.not_eq_true', decide_eq_false_iff_not] at h
    unfold lkI
    rw [if_neg (fun z => h.1 z.1.symm)]
    exact ih (by simpa using h.2)
theorem lkP_row {P : List (Nat × Nat × Option Nat)} {k : Nat} (h : P.all (fun e => !decide (e.1 = k)) = true) (j : Nat) : lkP P k j = none := by
  induction P with
  | nil => rfl
  | cons e r ih =>
    simp only [List.all_cons, Bool.and_eq_true, Bool.not_eq_true', decide_eq_false_iff_not] at h
    unfold lkP
    rw [if_neg (fun z => h.1 z.1.symm)]
    exact ih (by simpa using h.2)
theorem law_init : ∃ M4 M9, (nO M00 8 16).bind (fun M1 => F_X8_init 0 M1) = some M4 ∧ M4.1.length = 67 ∧ (nO M4 9 62).bind (fun M6 => F_X9_init 67 M6) = some M9 ∧ M9.1.length = 97 ∧ ∃ M11, nA M9 103 1 = some M11 ∧ Inv M11 0 := by
  obtain ⟨M4, M9, e1, e2, e3, e4, M11, e5, h⟩ := init_all
  refine ⟨M4, M9, e1, e2, e3, e4, M11, e5, ?_⟩
  have hL : Lay M11 := by
    refine ⟨fun k hk => by rw [h.1, cs_tags], fun q hq => ?_⟩
    have hk : q.1 < cs0.1.length := by
      rw [cs_len]
      have : ∀ q ∈ PT0, q.1 < 98 := by decide
      exact this q hq
    rw [h.2.2.1 q.1 q.2.1 hk]
    have := List.all_eq_true.mp cs_ptr q hq
    simpa using this
  have I : ∀ k j, k < 98 → k ∉ cs0.2.2.2.2 → mI M11 k j = lkI cs0.2.2.2.1 k j := fun k j hk hu => h.2.2.2.1 k j (by rw [cs_len]; exact hk) hu
  have P : ∀ k j, k < 98 → mP M11 k j = lkP cs0.2.2.1 k j := fun k j hk => h.2.2.1 k j (by rw [cs_len]; exact hk)
  have hg : GdP g00 := ⟨by decide, by decide, by decide, fun h hh => absurd hh (Nat.not_lt_zero _), fun h hh => absurd hh (Nat.not_lt_zero _), fun h hh => absurd hh (Nat.not_lt_zero _)⟩
  have hd : GdS 999 g00 s00 := ⟨⟨by decide, by decide⟩, Or.inl rfl, fun h hh => absurd hh (Nat.not_lt_zero _), fun h hh => absurd hh (Nat.not_lt_zero _), fun h k hh => absurd hh (Nat.not_lt_zero _), fun h hh => absurd hh (Nat.not_lt_zero _), fun k _ => bit_0⟩
  have pn : ∀ r, (r = 39 ∨ r = 52) → ∀ j, mP M11 r j = none := by
    rintro r (rfl | rfl) j
    · rw [P 39 j (by omega)]; exact lkP_row (by decide +kernel) j
    · rw [P 52 j (by omega)]; exact lkP_row (by decide +kernel) j
  have ru : ∀ j, (j = 10 ∨ j = 11) → mP M11 4 j = none := by
    rintro j (rfl | rfl)
    · rw [P 4 10 (by omega)]; decide +kernel
    · rw [P 4 11 (by omega)]; decide +kernel
  refine ⟨4, g00, s00, [], [], none, fun _ => 0, [], -1, ?_, ?_, ?_⟩
  · refine ⟨hL, Or.inl ⟨rfl, by rw [P 0 3 (by omega)]; decide +kernel⟩, by rw [P 0 2 (by omega)]; decide +kernel, ⟨hL.PlO (Or.inl rfl), hg, by rw [I 4 0 (by omega) (by decide +kernel)]; decide +kernel, by rw [I 4 1 (by omega) (by decide +kernel)]; decide +kernel, by rw [I 4 2 (by omega) (by decide +kernel)]; decide +kernel, fun h hh => absurd hh (Nat.not_lt_zero _), fun h hh => absurd hh (Nat.not_lt_zero _), fun h hh => absurd hh (Nat.not_lt_zero _), Or.inl ⟨ru 10 (Or.inl rfl), rfl⟩, Or.inl ⟨ru 11 (Or.inr rfl), rfl⟩⟩, fun k j hj hk => ?_, ⟨hL.StO (Or.inl rfl), by rw [I 24 0 (by omega) (by decide +kernel)]; decide +kernel, by rw [I 24 1 (by omega) (by decide +kernel)]; decide +kernel, by rw [I 24 2 (by omega) (by decide +kernel)]; decide +kernel, fun h hh => absurd hh (Nat.not_lt_zero _), fun h hh => absurd hh (Nat.not_lt_zero _)⟩, hd, ⟨fun r hr j a hj ha => ?_, fun r r' j j' a hr hr' hj hj' ha ha' => ?_⟩, ⟨0, by omega, by rw [I 38 1 (by omega) (by decide +kernel)]; decide +kernel, by rw [I 38 2 (by omega) (by decide +kernel)]; decide +kernel, by simp, fun i t ht => by simp at ht⟩, fun t ht => by simp at ht, ⟨by rw [I 40 3 (by omega) (by decide +kernel)]; decide +kernel, by simp, fun i e he => by simp at he⟩, ?_, fun i hi => by rw [I 57 i (by omega) (by decide +kernel)]; exact lkI_row (by decide +kernel) i, ⟨by rw [I 1 1 (by omega) (by decide +kernel)]; decide +kernel, by simp, fun i b hb => by simp at hb⟩, by rw [I 0 1 (by omega) (by decide +kernel)]; decide +kernel⟩
    · rw [ru j hj] at hk; cases hk
    · rw [pn r hr j] at ha; cases ha
    · rw [pn r hr j] at ha; cases ha
    · show mI M11 0 8 = 0
      rw [I 0 8 (by omega) (by decide +kernel)]; decide +kernel
  · have i67 : ∀ j v, lkI cs0.2.2.2.1 67 j = v → mI M11 67 j = v := fun j v hv => by rw [I 67 j (by omega) (by decide +kernel)]; exact hv
    have r83 : ∀ j, mI M11 83 j = 0 := fun j => by rw [I 83 j (by omega) (by decide +kernel)]; exact lkI_row (by decide +kernel) j
    refine ⟨⟨⟨hL, ⟨hg, i67 1 _ (by decide +kernel), i67 2 _ (by decide +kernel), i67 3 _ (by decide +kernel), fun h hh => absurd hh (Nat.not_lt_zero _), fun h hh => absurd hh (Nat.not_lt_zero _), fun h hh => absurd hh (Nat.not_lt_zero _), Or.inl ⟨i67 4 _ (by decide +kernel), rfl⟩, Or.inl ⟨i67 5 _ (by decide +kernel), rfl⟩⟩, rfl, by omega, ⟨r83 0, r83 1, r83 2, fun h hh => absurd hh (Nat.not_lt_zero _), fun h hh => absurd hh (Nat.not_lt_zero _)⟩, hd⟩, i67 46 _ (by decide +kernel)⟩, ⟨i67 43 _ (by decide +kernel), by simp, fun i t ht => by simp at ht⟩, ⟨i67 51 _ (by decide +kernel), by simp, fun i e he => by simp at he⟩, i67 56 _ (by decide +kernel), fun i hi => by rw [I 74 i (by omega) (by decide +kernel)]; exact lkI_row (by decide +kernel) i, ⟨i67 12 _ (by decide +kernel), fun i b hb => by simp at hb⟩, i67 14 _ (by decide +kernel)⟩
  · refine ⟨by rw [h.1, cs_len]; omega, ?_⟩
    rw [h.2.1]
    decide +kernel

