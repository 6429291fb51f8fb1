theorem kd_or {q k j n : Nat} {t' t : mT} (hq : q = k → t' = t) (hk : kdf t j = n) : kdf t' j = n ∨ q ≠ k := by
  by_cases h : q = k
  · exact Or.inl (by rw [hq h]; exact hk)
  · exact Or.inr h
/-- the entry idx of own's pool is the field j of class ci -/
def FL (own : String) (idx ci j : Nat) : Prop := ∃ (C : String) (T : u_T) (N : Nat), vwCl[ci]? = some (C, T, N) ∧ j < N ∧ (T j).1 = C ∧ Cond.fieldLink own idx C (T j).2.1 (T j).2.2.1 ∈ gws
def FP (own : String) (idx ci j : Nat) (ty : FieldType) (fin : Bool) : Prop := ∃ (C : String) (T : u_T) (N : Nat), vwCl[ci]? = some (C, T, N) ∧ j < N ∧ (T j).1 = C ∧ Cond.fieldLink own idx C (T j).2.1 (T j).2.2.1 ∈ gws ∧ parseFieldDescriptor (T j).2.2.1 = some ty ∧ (T j).2.2.2 = fin
section QH
variable {X : CX} {cc : ByteArray} {nL pc fr lo : Nat} {own : String} {lv : List (Nat × Value)} {st : List Value} {M M' : Mem}
theorem HC.obj {G : GG} {H : Heap} {ci k : Nat} {r : vw_C} (h : HC G M H) (ht : M.1[k]? = some (ci, 0)) (hc : vwCl[ci]? = some r) : t_OB (G.2.2.1 + k) (G.1.1 ci) r.2.2 (G.1.2 ci) H (fun j => re G (cv M k (ci, 0) j)) := by
  have h10 := (clf ci r hc).1
  have h1 := h.2 k _ ht (by show ci < 200; omega)
  unfold cellAt at h1
  rw [if_pos (by show ci < 100; omega)] at h1
  obtain ⟨r', h2, h3⟩ := h1
  cases Option.some.inj (hc.symm.trans h2)
  exact h3
theorem HC.arr {G : GG} {H : Heap} {kd k n : Nat} (h : HC G M H) (ht : M.1[k]? = some (kd, n)) (h1 : ¬ kd < 100) (h2 : kd < 200) : H[G.2.2.1 + k]? = some (arrV (G.2.1 kd) n (fun j => re G (cv M k (kd, n) j))) := by
  have h1' := h.2 k _ ht h2
  unfold cellAt at h1'
  rw [if_neg h1] at h1'
  exact h1'
theorem W_obj {idx ci k j : Nat} (C : CK X cc nL own fr lo) (L : FL own idx ci j) (ht : M.1[k]? = some (ci, 0)) (d : decode cc pc = .ok (.getfield idx, 3)) {v : Value} (hv : cv M k (ci, 0) j = v) (kk : wq X nL (pc + 3) lv (v :: st) M) : wq X nL pc lv (.ref k :: st) M := by
  intro H locs ls h1 h2 h3 h4 h5
  obtain ⟨hx, hb, hml, hown, hts, hK, -⟩ := C
  obtain ⟨C, T, N, hc, hj, hT1, hl⟩ := L
  obtain ⟨h10, hin, -, -⟩ := clf ci _ hc
  obtain ⟨cell, q1, q2, q3, q4⟩ := h1.obj ht hc
  obtain ⟨hS, hfc, kC, hkC, hkind⟩ := hK.1 ci _ hc
  obtain ⟨cf, kf, fi, f, hi, hsl⟩ := hS j hj
  have hi' : X.1.2.2.2.2.1.fieldFound? C (T j).2.1 (T j).2.2.1 = some (cf, kf, fi, f) := by rw [← hT1]; exact hi
  refine W.getf hx hb hown (hts _ hl) hi' (u_facts hfc hkC (u_lays hts hin hj) hi).1 q1 (by rw [q3]; exact fun h => by cases h) (v := re X.2.2.1 v) ?_ rfl rfl d (kk H locs ls h1 h2 h3 h4 h5)
  rw [hsl, q4 j hj]
  show some (re X.2.2.1 (cv M k (ci, 0) j)) = _
  rw [hv]
theorem q_getI {idx ci k j : Nat} {v : Int32} (C : CK X cc nL own fr lo) (L : FL own idx ci j) (hk : kdf (ci, 0) j = 0) (h : gI M ci k j = some v) (d : decode cc pc = .ok (.getfield idx, 3)) (kk : wq X nL (pc + 3) lv (.int v :: st) M) : wq X nL pc lv (.ref k :: st) M := by
  unfold gI at h
  split at h
  · rename_i ht; cases h; exact W_obj C L ht d (by unfold cv; rw [if_pos hk]) kk
  · cases h
theorem q_getL {idx ci k j : Nat} {v : Int64} (C : CK X cc nL own fr lo) (L : FL own idx ci j) (hk : kdf (ci, 0) j = 1) (h : gL M ci k j = some v) (d : decode cc pc = .ok (.getfield idx, 3)) (kk : wq X nL (pc + 3) lv (.long v :: st) M) : wq X nL pc lv (.ref k :: st) M := by
  unfold gL at h
  split at h
  · rename_i ht; cases h; exact W_obj C L ht d (by unfold cv; rw [hk]; rfl) kk
  · cases h
theorem q_getQ {idx ci k j : Nat} {v : Option Nat} (C : CK X cc nL own fr lo) (L : FL own idx ci j) (hk : kdf (ci, 0) j = 2) (h : gQ M ci k j = some v) (d : decode cc pc = .ok (.getfield idx, 3)) (kk : wq X nL (pc + 3) lv (rq v :: st) M) : wq X nL pc lv (.ref k :: st) M := by
  unfold gQ at h
  split at h
  · rename_i ht; cases h; exact W_obj C L ht d (by unfold cv; rw [hk]; rfl) kk
  · cases h
theorem q_getP {idx ci k j : Nat} {v : Nat} (C : CK X cc nL own fr lo) (L : FL own idx ci j) (hk : kdf (ci, 0) j = 2) (h : gP M ci k j = some v) (d : decode cc pc = .ok (.getfield idx, 3)) (kk : wq X nL (pc + 3) lv (.ref v :: st) M) : wq X nL pc lv (.ref k :: st) M := by
  unfold gP at h
  split at h
  · rename_i ht; exact W_obj C L ht d (by unfold cv; rw [hk, h]; rfl) kk
  · cases h
theorem cellAt_obj {G : GG} {M' : Mem} {H' : Heap} {ci a : Nat} {r : vw_C} (hc : vwCl[ci]? = some r) (h : t_OB (G.2.2.1 + a) (G.1.1 ci) r.2.2 (G.1.2 ci) H' (fun j => re G (cv M' a (ci, 0) j))) : cellAt G M' a (ci, 0) H' := by
  unfold cellAt
  have h10 := (clf ci r hc).1
  rw [if_pos (by show ci < 100; omega)]
  exact ⟨r, hc, h⟩
theorem S_put {G : GG} {H0 H H' : Heap} {locs : List Loc} {a i : Nat} (hS : va_S (gA G) H0 H locs) (z : H'.size = H.size) (oq : ∀ q, q ≠ G.2.2.1 + a → H'[q]? = H[q]?) : va_S (gA G) H0 H' (locs ++ [⟨G.2.2.1 + a, i⟩]) := by
  refine ⟨by rw [z]; exact hS.1, fun q h1 h2 => ?_, fun l hl => ?_⟩
  · rw [oq q (fun e => h2 (by rw [e]; exact Nat.le_add_right _ _))]
    exact hS.2.1 q h1 h2
  · rcases List.mem_append.mp hl with h | h
    · exact hS.2.2 l h
    · rw [List.mem_singleton.mp h]
      exact Nat.le_add_right _ _
/-- a field that isn't final is written -/
theorem W_put {idx ci k j : Nat} {ty : FieldType} {v : Value} (C : CK X cc nL own fr lo) (L : FP own idx ci j ty false) (ht : M.1[k]? = some (ci, 0)) (d : decode cc pc = .ok (.putfield idx, 3)) (hn : narrow ty (re X.2.2.1 v) = re X.2.2.1 v) (hf : fits ty (re X.2.2.1 v) = true)
    (e1 : M'.1 = M.1) (e2 : mS M' = mS M) (hv : ∀ (q i : Nat) (t' : mT), (q = k → t' = (ci, 0)) → cv M' q t' i = if q = k ∧ i = j then v else cv M q t' i) (kk : wq X nL (pc + 3) lv st M') : wq X nL pc lv (v :: .ref k :: st) M := by
  intro H locs ls h1 h2 h3 h4 h5
  obtain ⟨hx, hb, hml, hown, hts, hK, -⟩ := C
  obtain ⟨C, T, N, hc, hj, hT1, hl, hd, hfin⟩ := L
  obtain ⟨h10, hin, ⟨ty0, hty⟩, hnm⟩ := clf ci _ hc
  have hap := va_apart (own := own) hts hin ty0 hty hnm hK hc
  obtain ⟨cell, q1, q2, q3, q4⟩ := h1.obj ht hc
  obtain ⟨hS, hfc, kC, hkC, hkind⟩ := hK.1 ci _ hc
  obtain ⟨cf, kf, fi, f, hi, hsl⟩ := hS j hj
  have hi' : X.1.2.2.2.2.1.fieldFound? C (T j).2.1 (T j).2.2.1 = some (cf, kf, fi, f) := by rw [← hT1]; exact hi
  have hlay := hts _ (hin _ (u_in_lay hj))
  unfold u_lay at hlay
  rw [if_neg (by rw [hfin]; decide)] at hlay
  have hst := (u_facts hfc hkC (u_lays hts hin hj) hi).1
  have h6 := u_store hfc hkC hkind hlay hi hd hn hf
  refine W.putK hx hb (f := f) ⟨hown, hts _ hl, ⟨_, _, _, hi'⟩, hst⟩ (by rw [q2]; exact h6) q1 q3 (by rw [hsl]; exact k2_hasslot (q4 j hj)) rfl rfl d fun H' g1 g2 g3 => ?_
  rw [hsl] at g1 ⊢
  have hcell : cellAt X.2.2.1 M' k (ci, 0) H' := by
    refine cellAt_obj hc (t_OB.to (V := updV (fun i => re X.2.2.1 (cv M k (ci, 0) i)) j (re X.2.2.1 v)) ⟨_, g1, q2, q3, t_set q4 hap hj _⟩ fun i _ => ?_)
    rw [hv k i (ci, 0) (fun _ => rfl)]
    unfold updV
    by_cases hij : i = j
    · simp [hij]
    · simp [hij]
  have hW := kk H' _ ls (h1.store ht (by show ci < 200; omega) e1 hv g2 g3 hcell) (S_put (i := X.2.2.1.1.2 ci j) h2 g2 g3) h3 (by rw [e1]; exact h4) (by rw [e2]; exact h5)
  rw [e1, e2] at hW
  exact hW
/-- a final field is written by its constructor -/
theorem W_putF {idx ci k j : Nat} {ty : FieldType} {v : Value} (C : CK X cc nL own fr lo) (hin2 : X.2.1.2.2.1.name = "<init>") (L : FP own idx ci j ty true) (hci : vwCl[ci]?.map (·.1) = some own) (ht : M.1[k]? = some (ci, 0)) (d : decode cc pc = .ok (.putfield idx, 3)) (hn : narrow ty (re X.2.2.1 v) = re X.2.2.1 v) (hf : fits ty (re X.2.2.1 v) = true)
    (e1 : M'.1 = M.1) (e2 : mS M' = mS M) (hv : ∀ (q i : Nat) (t' : mT), (q = k → t' = (ci, 0)) → cv M' q t' i = if q = k ∧ i = j then v else cv M q t' i) (kk : wq X nL (pc + 3) lv st M') : wq X nL pc lv (v :: .ref k :: st) M := by
  intro H locs ls h1 h2 h3 h4 h5
  obtain ⟨hx, hb, hml, hown, hts, hK, -⟩ := C
  obtain ⟨C, T, N, hc, hj, hT1, hl, hd, hfin⟩ := L
  have hCo : C = own := by rw [hc] at hci; exact Option.some.inj hci
  obtain ⟨h10, hin, ⟨ty0, hty⟩, hnm⟩ := clf ci _ hc
  have hap := va_apart (own := own) hts hin ty0 hty hnm hK hc
  obtain ⟨cell, q1, q2, q3, q4⟩ := h1.obj ht hc
  obtain ⟨hS, hfc, kC, hkC, hkind⟩ := hK.1 ci _ hc
  obtain ⟨cf, kf, fi, f, hi, hsl⟩ := hS j hj
  have hi' : X.1.2.2.2.2.1.fieldFound? C (T j).2.1 (T j).2.2.1 = some (cf, kf, fi, f) := by rw [← hT1]; exact hi
  have hlay := hts _ (hin _ (u_in_lay hj))
  unfold u_lay at hlay
  rw [if_pos hfin] at hlay
  have hst := (u_facts hfc hkC (u_lays hts hin hj) hi).1
  have hcf : X.1.2.2.2.2.2.cls = cf := by
    obtain ⟨_, _, c', _, _, _, -, -, hf', -, -, -, hown2, -⟩ := Cond.laysFinal_spec hlay
    have e1 : c' = cf := by have := hi.symm.trans hf'; simp at this; exact this.1.symm
    rw [hT1, hCo] at hown2
    rw [← e1]; exact Option.some.inj (hown.symm.trans hown2)
  have h6 := u_fits hfc hkC hkind (Or.inr hlay) hi hd hn hf
  refine W.putFinK hx hb hown (hts _ hl) hi' hst hcf hin2 (by rw [q2]; exact h6) q1 q3 (by rw [hsl]; exact k2_hasslot (q4 j hj)) rfl rfl d fun H' g1 g2 g3 => ?_
  rw [hsl] at g1 ⊢
  have hcell : cellAt X.2.2.1 M' k (ci, 0) H' := by
    refine cellAt_obj hc (t_OB.to (V := updV (fun i => re X.2.2.1 (cv M k (ci, 0) i)) j (re X.2.2.1 v)) ⟨_, g1, q2, q3, t_set q4 hap hj _⟩ fun i _ => ?_)
    rw [hv k i (ci, 0) (fun _ => rfl)]
    unfold updV
    by_cases hij : i = j
    · simp [hij]
    · simp [hij]
  have hW := kk H' _ ls (h1.store ht (by show ci < 200; omega) e1 hv g2 g3 hcell) (S_put (i := X.2.2.1.1.2 ci j) h2 g2 g3) h3 (by rw [e1]; exact h4) (by rw [e2]; exact h5)
  rw [e1, e2] at hW
  exact hW
theorem q_putI {idx ci k j : Nat} {v : Int32} (C : CK X cc nL own fr lo) (L : FP own idx ci j .int false) (hk : kdf (ci, 0) j = 0) (h : pI M ci k j v = some M') (d : decode cc pc = .ok (.putfield idx, 3)) (kk : wq X nL (pc + 3) lv st M') : wq X nL pc lv (.int v :: .ref k :: st) M := by
  unfold pI at h
  split at h
  · rename_i ht; cases h
    exact W_put (M' := stI M k j v) C L ht d rfl rfl rfl rfl (fun q i t' hq => cv_stI (kd_or hq hk)) kk
  · cases h
theorem q_putZ {idx ci k j : Nat} {v : Int32} (C : CK X cc nL own fr lo) (L : FP own idx ci j .boolean false) (hk : kdf (ci, 0) j = 0) (h : pZ M ci k j v = some M') (d : decode cc pc = .ok (.putfield idx, 3)) (kk : wq X nL (pc + 3) lv st M') : wq X nL pc lv (.int v :: .ref k :: st) M := by
  unfold pZ at h
  split at h
  · rename_i hz
    unfold pI at h
    split at h
    · rename_i ht; cases h
      refine W_put (M' := stI M k j v) C L ht d ?_ ?_ rfl rfl (fun q i t' hq => cv_stI (kd_or hq hk)) kk
      · rcases hz with rfl | rfl <;> rfl
      · rcases hz with rfl | rfl <;> rfl
    · cases h
  · cases h
theorem q_putL {idx ci k j : Nat} {v : Int64} (C : CK X cc nL own fr lo) (L : FP own idx ci j .long false) (hk : kdf (ci, 0) j = 1) (h : pL M ci k j v = some M') (d : decode cc pc = .ok (.putfield idx, 3)) (kk : wq X nL (pc + 3) lv st M') : wq X nL pc lv (.long v :: .ref k :: st) M := by
  unfold pL at h
  split at h
  · rename_i ht; cases h
    exact W_put (M' := stL M k j v) C L ht d rfl rfl rfl rfl (fun q i t' hq => cv_stL (kd_or hq hk)) kk
  · cases h
def isRT (ty : FieldType) : Bool := match ty with
  | .object _ => true
  | .array _ => true
  | _ => false
theorem q_putQ {idx ci k j : Nat} {ty : FieldType} {v : Option Nat} (hty : isRT ty = true) (C : CK X cc nL own fr lo) (L : FP own idx ci j ty false) (hk : kdf (ci, 0) j = 2) (h : pQ M ci k j v = some M') (d : decode cc pc = .ok (.putfield idx, 3)) (kk : wq X nL (pc + 3) lv st M') : wq X nL pc lv (rq v :: .ref k :: st) M := by
  unfold pQ at h
  split at h
  · rename_i ht; cases h
    refine W_put (M' := stP M k j v) C L ht d ?_ ?_ rfl rfl (fun q i t' hq => cv_stP (kd_or hq hk)) kk
    · cases ty <;> first | (cases hty; done) | (cases v <;> rfl)
    · cases ty <;> first | (cases hty; done) | (cases v <;> rfl)
  · cases h
theorem q_putF {idx ci k j : Nat} {ty : FieldType} {v : Nat} (hin2 : X.2.1.2.2.1.name = "<init>") (hci : vwCl[ci]?.map (·.1) = some own) (hty : isRT ty = true) (C : CK X cc nL own fr lo) (L : FP own idx ci j ty true) (hk : kdf (ci, 0) j = 2) (h : pQ M ci k j (some v) = some M') (d : decode cc pc = .ok (.putfield idx, 3)) (kk : wq X nL (pc + 3) lv st M') : wq X nL pc lv (.ref v :: .ref k :: st) M := by
  unfold pQ at h
  split at h
  · rename_i ht; cases h
    refine W_putF (M' := stP M k j (some v)) (v := .ref v) C hin2 L hci ht d ?_ ?_ rfl rfl (fun q i t' hq => cv_stP (v := some v) (kd_or hq hk)) kk
    · cases ty <;> first | (cases hty; done) | rfl
    · cases ty <;> first | (cases hty; done) | rfl
  · cases h
end QH
