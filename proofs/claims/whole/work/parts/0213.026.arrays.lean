section QA
variable {X : CX} {cc : ByteArray} {nL pc fr lo : Nat} {own : String} {lv : List (Nat × Value)} {st : List Value} {M M' : Mem}
theorem aI_some {kd k : Nat} {i v : Int32} (h : aI M kd k i = some v) : ∃ n, M.1[k]? = some (kd, n) ∧ ¬ (i < 0 ∨ n ≤ i.toNatClampNeg) ∧ v = mI M k i.toNatClampNeg := by
  unfold aI at h
  cases ht : tl M kd k with
  | none => simp [ht] at h
  | some n =>
    rw [ht] at h
    simp only [Option.bind_some] at h
    split at h
    · cases h
    · rename_i hc
      exact ⟨n, tl_some ht, hc, (Option.some.inj h).symm⟩
theorem aL_some {k : Nat} {i : Int32} {v : Int64} (h : aL M k i = some v) : ∃ n, M.1[k]? = some (103, n) ∧ ¬ (i < 0 ∨ n ≤ i.toNatClampNeg) ∧ v = mL M k i.toNatClampNeg := by
  unfold aL at h
  cases ht : tl M 103 k with
  | none => simp [ht] at h
  | some n =>
    rw [ht] at h
    simp only [Option.bind_some] at h
    split at h
    · cases h
    · rename_i hc
      exact ⟨n, tl_some ht, hc, (Option.some.inj h).symm⟩
theorem aQ_some {k : Nat} {i : Int32} {v : Option Nat} (h : aQ M k i = some v) : ∃ n, M.1[k]? = some (104, n) ∧ ¬ (i < 0 ∨ n ≤ i.toNatClampNeg) ∧ v = mP M k i.toNatClampNeg := by
  unfold aQ at h
  cases ht : tl M 104 k with
  | none => simp [ht] at h
  | some n =>
    rw [ht] at h
    simp only [Option.bind_some] at h
    split at h
    · cases h
    · rename_i hc
      exact ⟨n, tl_some ht, hc, (Option.some.inj h).symm⟩
theorem sI_some {kd k : Nat} {i v : Int32} (h : sI M kd k i v = some M') : ∃ n, M.1[k]? = some (kd, n) ∧ ¬ (i < 0 ∨ n ≤ i.toNatClampNeg) ∧ M' = stI M k i.toNatClampNeg v := by
  unfold sI at h
  cases ht : tl M kd k with
  | none => simp [ht] at h
  | some n =>
    rw [ht] at h
    simp only [Option.bind_some] at h
    split at h
    · cases h
    · rename_i hc
      exact ⟨n, tl_some ht, hc, (Option.some.inj h).symm⟩
theorem sL_some {k : Nat} {i : Int32} {v : Int64} (h : sL M k i v = some M') : ∃ n, M.1[k]? = some (103, n) ∧ ¬ (i < 0 ∨ n ≤ i.toNatClampNeg) ∧ M' = stL M k i.toNatClampNeg v := by
  unfold sL at h
  cases ht : tl M 103 k with
  | none => simp [ht] at h
  | some n =>
    rw [ht] at h
    simp only [Option.bind_some] at h
    split at h
    · cases h
    · rename_i hc
      exact ⟨n, tl_some ht, hc, (Option.some.inj h).symm⟩
theorem sP_some {k v : Nat} {i : Int32} (h : sP M k i v = some M') : ∃ n, M.1[k]? = some (104, n) ∧ ¬ (i < 0 ∨ n ≤ i.toNatClampNeg) ∧ M.1[v]? = some (6, 0) ∧ M' = stP M k i.toNatClampNeg (some v) := by
  unfold sP at h
  cases ht : tl M 104 k with
  | none => simp [ht] at h
  | some n =>
    rw [ht] at h
    simp only [Option.bind_some] at h
    split at h
    · cases h
    · rename_i hc
      exact ⟨n, tl_some ht, fun z => hc (Or.inl z), Classical.byContradiction fun z => hc (Or.inr z), (Option.some.inj h).symm⟩
theorem q_iaload {k : Nat} {i v : Int32} (C : CK X cc nL own fr lo) (h : aI M 100 k i = some v) (d : decode cc pc = .ok (.iaload, 1)) (kk : wq X nL (pc + 1) lv (.int v :: st) M) : wq X nL pc lv (.int i :: .ref k :: st) M := by
  intro H locs ls h1 h2 h3 h4 h5
  obtain ⟨hx, hb, hml, hown, hts, hK, -⟩ := C
  obtain ⟨n, ht, hi, rfl⟩ := aI_some h
  exact W.iald hx hb (h1.arr ht (by decide) (by decide)) ((hK.2 0 _ rfl).1 n _) (fun h => by cases h) (by rw [arrV_size]; exact hi) (by rw [arrV_read _ _ (Nat.not_le.mp fun z => hi (Or.inr z))]; rfl) rfl rfl d (kk H locs ls h1 h2 h3 h4 h5)
theorem q_baload {k : Nat} {i v : Int32} (C : CK X cc nL own fr lo) (h : aI M 101 k i = some v) (d : decode cc pc = .ok (.baload, 1)) (kk : wq X nL (pc + 1) lv (.int v :: st) M) : wq X nL pc lv (.int i :: .ref k :: st) M := by
  intro H locs ls h1 h2 h3 h4 h5
  obtain ⟨hx, hb, hml, hown, hts, hK, -⟩ := C
  obtain ⟨n, ht, hi, rfl⟩ := aI_some h
  exact W.bald hx hb (h1.arr ht (by decide) (by decide)) ((hK.2 1 _ rfl).1 n _) (fun h => by cases h) (by rw [arrV_size]; exact hi) (by rw [arrV_read _ _ (Nat.not_le.mp fun z => hi (Or.inr z))]; rfl) rfl rfl d (kk H locs ls h1 h2 h3 h4 h5)
theorem q_zaload {k : Nat} {i v : Int32} (C : CK X cc nL own fr lo) (h : aI M 102 k i = some v) (d : decode cc pc = .ok (.baload, 1)) (kk : wq X nL (pc + 1) lv (.int v :: st) M) : wq X nL pc lv (.int i :: .ref k :: st) M := by
  intro H locs ls h1 h2 h3 h4 h5
  obtain ⟨hx, hb, hml, hown, hts, hK, -⟩ := C
  obtain ⟨n, ht, hi, rfl⟩ := aI_some h
  exact W.zald hx hb (h1.arr ht (by decide) (by decide)) ((hK.2 2 _ rfl).1 n _) (fun h => by cases h) (by rw [arrV_size]; exact hi) (by rw [arrV_read _ _ (Nat.not_le.mp fun z => hi (Or.inr z))]; rfl) rfl rfl d (kk H locs ls h1 h2 h3 h4 h5)
theorem q_laload {k : Nat} {i : Int32} {v : Int64} (C : CK X cc nL own fr lo) (h : aL M k i = some v) (d : decode cc pc = .ok (.laload, 1)) (kk : wq X nL (pc + 1) lv (.long v :: st) M) : wq X nL pc lv (.int i :: .ref k :: st) M := by
  intro H locs ls h1 h2 h3 h4 h5
  obtain ⟨hx, hb, hml, hown, hts, hK, -⟩ := C
  obtain ⟨n, ht, hi, rfl⟩ := aL_some h
  exact W.lald hx hb (h1.arr ht (by decide) (by decide)) ((hK.2 3 _ rfl).1 n _) (fun h => by cases h) (by rw [arrV_size]; exact hi) (by rw [arrV_read _ _ (Nat.not_le.mp fun z => hi (Or.inr z))]; rfl) rfl rfl d (kk H locs ls h1 h2 h3 h4 h5)
theorem q_aaload {k : Nat} {i : Int32} {v : Option Nat} (C : CK X cc nL own fr lo) (h : aQ M k i = some v) (d : decode cc pc = .ok (.aaload, 1)) (kk : wq X nL (pc + 1) lv (rq v :: st) M) : wq X nL pc lv (.int i :: .ref k :: st) M := by
  intro H locs ls h1 h2 h3 h4 h5
  obtain ⟨hx, hb, hml, hown, hts, hK, -⟩ := C
  obtain ⟨n, ht, hi, rfl⟩ := aQ_some h
  exact W.aald (ty := .object "HornHouses$State") hx hb (h1.arr ht (by decide) (by decide)) ((hK.2 4 _ rfl).1 n _) rfl (fun h => by cases h) (by rw [arrV_size]; exact hi) (by rw [arrV_read _ _ (Nat.not_le.mp fun z => hi (Or.inr z))]; rfl) rfl rfl d (kk H locs ls h1 h2 h3 h4 h5)
theorem q_alen (t0 kd : Nat) {ty : FieldType} {k : Nat} {v : Int32} (C : CK X cc nL own fr lo) (h0 : (gty X.2.2.1)[t0]? = some (X.2.2.1.2.1 kd, ty)) (h100 : ¬ kd < 100) (h200 : kd < 200) (h : alen M kd k = some v) (d : decode cc pc = .ok (.arraylength, 1)) (kk : wq X nL (pc + 1) lv (.int v :: st) M) : wq X nL pc lv (.ref k :: st) M := by
  intro H locs ls h1 h2 h3 h4 h5
  obtain ⟨hx, hb, hml, hown, hts, hK, -⟩ := C
  unfold alen at h
  cases ht : tl M kd k with
  | none => simp [ht] at h
  | some n =>
    rw [ht] at h
    cases h
    exact W.alen hx hb (h1.arr (tl_some ht) h100 h200) ((hK.2 t0 _ h0).1 n _) (by rw [arrV_size]) rfl rfl d (kk H locs ls h1 h2 h3 h4 h5)
/-- one place of an array is written -/
theorem HC.ast {G : GG} {H H' : Heap} {kd k n j : Nat} {v : Value} (h : HC G M H) (ht : M.1[k]? = some (kd, n)) (h100 : ¬ kd < 100) (h200 : kd < 200) (e1 : M'.1 = M.1) (hv : ∀ (q i : Nat) (t' : mT), (q = k → t' = (kd, n)) → cv M' q t' i = if q = k ∧ i = j then v else cv M q t' i)
    (g1 : H'[G.2.2.1 + k]? = some ((arrV (G.2.1 kd) n (fun i => re G (cv M k (kd, n) i))).setSlot j (re G v))) (g2 : H'.size = H.size) (g3 : ∀ q, q ≠ G.2.2.1 + k → H'[q]? = H[q]?) : HC G M' H' := by
  refine h.store ht h200 e1 hv g2 g3 ?_
  unfold cellAt
  rw [if_neg h100, g1, arrV_store]
  congr 2
  funext i
  rw [hv k i (kd, n) (fun _ => rfl)]
  unfold updV
  by_cases hij : i = j
  · simp [hij]
  · simp [hij]
theorem q_iastore {k : Nat} {i v : Int32} (C : CK X cc nL own fr lo) (h : sI M 100 k i v = some M') (d : decode cc pc = .ok (.iastore, 1)) (kk : wq X nL (pc + 1) lv st M') : wq X nL pc lv (.int v :: .int i :: .ref k :: st) M := by
  intro H locs ls h1 h2 h3 h4 h5
  obtain ⟨hx, hb, hml, hown, hts, hK, -⟩ := C
  obtain ⟨n, ht, hi, rfl⟩ := sI_some h
  exact W.iast hx hb (h1.arr ht (by decide) (by decide)) ((hK.2 0 _ rfl).1 n _) (fun h => by cases h) (by rw [arrV_size]; exact hi) rfl rfl d fun H' g1 g2 g3 => kk H' _ ls (h1.ast (M' := stI M k i.toNatClampNeg v) (v := .int v) ht (by decide) (by decide) rfl (fun q i t' hq => cv_stI (kd_or hq rfl)) g1 g2 g3) (S_put h2 g2 g3) h3 h4 h5
theorem q_bastore {k : Nat} {i v : Int32} (C : CK X cc nL own fr lo) (h : sI M 101 k i (nby v) = some M') (d : decode cc pc = .ok (.bastore, 1)) (kk : wq X nL (pc + 1) lv st M') : wq X nL pc lv (.int v :: .int i :: .ref k :: st) M := by
  intro H locs ls h1 h2 h3 h4 h5
  obtain ⟨hx, hb, hml, hown, hts, hK, -⟩ := C
  obtain ⟨n, ht, hi, rfl⟩ := sI_some h
  exact W.bast hx hb (h1.arr ht (by decide) (by decide)) ((hK.2 1 _ rfl).1 n _) (fun h => by cases h) (by rw [arrV_size]; exact hi) rfl rfl d fun H' g1 g2 g3 => kk H' _ ls (h1.ast (M' := stI M k i.toNatClampNeg (nby v)) (v := .int (nby v)) ht (by decide) (by decide) rfl (fun q i t' hq => cv_stI (kd_or hq rfl)) g1 g2 g3) (S_put h2 g2 g3) h3 h4 h5
theorem q_zastore {k : Nat} {i v : Int32} (C : CK X cc nL own fr lo) (h : sI M 102 k i (nz v) = some M') (d : decode cc pc = .ok (.bastore, 1)) (kk : wq X nL (pc + 1) lv st M') : wq X nL pc lv (.int v :: .int i :: .ref k :: st) M := by
  intro H locs ls h1 h2 h3 h4 h5
  obtain ⟨hx, hb, hml, hown, hts, hK, -⟩ := C
  obtain ⟨n, ht, hi, rfl⟩ := sI_some h
  exact W.zast hx hb (h1.arr ht (by decide) (by decide)) ((hK.2 2 _ rfl).1 n _) (fun h => by cases h) (by rw [arrV_size]; exact hi) rfl rfl d fun H' g1 g2 g3 => kk H' _ ls (h1.ast (M' := stI M k i.toNatClampNeg (nz v)) (v := .int (nz v)) ht (by decide) (by decide) rfl (fun q i t' hq => cv_stI (kd_or hq rfl)) g1 g2 g3) (S_put h2 g2 g3) h3 h4 h5
theorem q_lastore {k : Nat} {i : Int32} {v : Int64} (C : CK X cc nL own fr lo) (h : sL M k i v = some M') (d : decode cc pc = .ok (.lastore, 1)) (kk : wq X nL (pc + 1) lv st M') : wq X nL pc lv (.long v :: .int i :: .ref k :: st) M := by
  intro H locs ls h1 h2 h3 h4 h5
  obtain ⟨hx, hb, hml, hown, hts, hK, -⟩ := C
  obtain ⟨n, ht, hi, rfl⟩ := sL_some h
  exact W.last hx hb (h1.arr ht (by decide) (by decide)) ((hK.2 3 _ rfl).1 n _) (fun h => by cases h) (by rw [arrV_size]; exact hi) rfl rfl d fun H' g1 g2 g3 => kk H' _ ls (h1.ast (M' := stL M k i.toNatClampNeg v) (v := .long v) ht (by decide) (by decide) rfl (fun q i t' hq => cv_stL (kd_or hq rfl)) g1 g2 g3) (S_put h2 g2 g3) h3 h4 h5
theorem q_aastore {k v : Nat} {i : Int32} (C : CK X cc nL own fr lo) (h : sP M k i v = some M') (d : decode cc pc = .ok (.aastore, 1)) (kk : wq X nL (pc + 1) lv st M') : wq X nL pc lv (.ref v :: .int i :: .ref k :: st) M := by
  intro H locs ls h1 h2 h3 h4 h5
  obtain ⟨hx, hb, hml, hown, hts, hK, -⟩ := C
  obtain ⟨n, ht, hi, hv, rfl⟩ := sP_some h
  obtain ⟨cellV, g1, g2, g3, -⟩ := h1.obj (r := (RX6, TX6, 9)) hv rfl
  have hcls := (hK.1 6 (RX6, TX6, 9) rfl).2
  obtain ⟨kA, comp, k1, k2, k3, -⟩ := (hK.2 4 _ rfl).2
  have hcomp : comp = X.2.2.1.1.1 6 := Option.some.inj (k3.symm.trans hcls.1)
  subst hcomp
  obtain ⟨kC, hkC, -⟩ := hcls.2
  exact W.aast hx hb (h1.arr ht (by decide) (by decide)) (fun q h => by cases h) (fun h => by cases h) k1 k2 rfl hkC ⟨fun z => hi (Or.inl z), by rw [arrV_size]; exact Nat.not_le.mp fun z => hi (Or.inr z)⟩ g1 (fun q h => by rw [g3] at h; cases h) (by rw [g2]; exact hkC) (by rw [g2]; exact va_assign hcls) rfl rfl d fun H' e1 e2 e3 => kk H' _ ls (h1.ast (M' := stP M k i.toNatClampNeg (some v)) (v := .ref v) ht (by decide) (by decide) rfl (fun q i t' hq => cv_stP (v := some v) (kd_or hq rfl)) e1 e2 e3) (S_put h2 e2 e3) h3 h4 h5
-- new cells
theorem S_new {G : GG} {H0 H H' : Heap} {locs : List Loc} (hS : va_S (gA G) H0 H locs) (z : H.size ≤ H'.size) (oq : ∀ q, q < H.size → H'[q]? = H[q]?) : va_S (gA G) H0 H' locs := ⟨Nat.le_trans hS.1 z, fun q h1 h2 => (oq q (Nat.lt_of_lt_of_le h1 hS.1)).trans (hS.2.1 q h1 h2), hS.2.2⟩
theorem dfl : ∀ (ci : Nat) (r : vw_C), vwCl[ci]? = some r → ∃ ty0 : Nat → FieldType, (∀ k, k < r.2.2 → parseFieldDescriptor (r.2.1 k).2.2.1 = some (ty0 k)) ∧ ∀ k, k < r.2.2 → defaultValue (ty0 k) = if kdf (ci, 0) k = 0 then .int 0 else if kdf (ci, 0) k = 1 then .long 0 else .null := by
  intro ci r h
  match ci, h with
  | 0, h => cases h; exact ⟨tyX0, tyX0_ok, by decide⟩
  | 1, h => cases h; exact ⟨tyX1, tyX1_ok, by decide⟩
  | 2, h => cases h; exact ⟨tyX2, tyX2_ok, by decide⟩
  | 3, h => cases h; exact ⟨tyX3, tyX3_ok, by decide⟩
  | 4, h => cases h; exact ⟨tyX4, tyX4_ok, by decide⟩
  | 5, h => cases h; exact ⟨tyX5, tyX5_ok, by decide⟩
  | 6, h => cases h; exact ⟨tyX6, tyX6_ok, by decide⟩
  | 7, h => cases h; exact ⟨tyX7, tyX7_ok, by decide⟩
  | 8, h => cases h; exact ⟨tyX8, tyX8_ok, by decide⟩
  | 9, h => cases h; exact ⟨tyX9, tyX9_ok, by decide +kernel⟩
  | k + 10, h => simp [vwCl] at h
theorem cv_new {M : Mem} {t : mT} {n j : Nat} (G : GG) : re G (cv (nwM M t n) M.1.length t j) = if kdf t j = 0 then .int 0 else if kdf t j = 1 then .long 0 else .null := by
  unfold cv nwM mI mL mP
  simp only [rw1, if_true]
  split
  · rfl
  · split
    · rfl
    · rfl
theorem q_new {idx ci n : Nat} {Cn : String} {T : u_T} (C : CK X cc nL own fr lo) (hc : vwCl[ci]? = some (Cn, T, n)) (w1 : Cond.classLink own idx Cn ∈ gws) (w2 : Cond.instantiable Cn n ∈ gws) (w3 : Cond.initialized Cn ∈ gws) (h : nO M ci n = some M') (d : decode cc pc = .ok (.new idx, 3)) (kk : wq X nL (pc + 3) lv (.ref M.1.length :: st) M') : wq X nL pc lv st M := by
  intro H locs ls h1 h2 h3 h4 h5
  obtain ⟨hx, hb, hml, hown, hts, hK, hB, hlk, hRc, hRs, -⟩ := C
  unfold nO at h
  split at h
  · rename_i hlim
    cases h
    obtain ⟨ty0, hty, hdf⟩ := dfl ci _ hc
    obtain ⟨h10, hin, -, -⟩ := clf ci _ hc
    have hKn := hK.1 ci _ hc
    have hl1 : M.1.length - X.2.2.2.1.1.length + 1 ≤ X.1.2.2.2.1.cells := by rw [hRc]; omega
    have hl2 : mS M - mS X.2.2.2.1 + n ≤ X.1.2.2.2.1.slots := by rw [hRs]; omega
    refine W.newcK hx hb hown (hts _ w1) (hts _ w2) (hts _ w3) rfl d hl1 hl2 hKn.2.1 h1.1 fun H' kC hkC g1 g2 g3 => ?_
    have hc' : HC X.2.2.1 (nwM M (ci, 0) n) H' := by
      refine h1.push (t := (ci, 0)) rfl (fun k i t' hk => cv_nw hk) (by rw [g2, h1.1]) (fun q hq => g3 q (by rw [← h1.1]; exact hq)) fun _ => cellAt_obj hc ?_
      refine (u_born ty0 hts hin hKn hkC g1 hty).to fun j hj => ?_
      rw [cv_new, hdf j hj]
    have e1 : (nwM M (ci, 0) n).1.length = M.1.length + 1 := by simp [nwM]
    have e2 : mS (nwM M (ci, 0) n) = mS M + n := rfl
    have hW := kk H' locs ls hc' (S_new h2 (by rw [g2, h1.1]; omega) (fun q hq => g3 q (by rw [← h1.1]; exact hq))) h3 (by rw [e1]; omega) (by rw [e2]; omega)
    rw [e1, e2, show M.1.length + 1 - X.2.2.2.1.1.length = M.1.length - X.2.2.2.1.1.length + 1 by omega, show mS M + n - mS X.2.2.2.1 = mS M - mS X.2.2.2.1 + n by omega] at hW
    exact hW
  · cases h
theorem q_newarr (t0 kd : Nat) {atype : ArrayType} {ty : FieldType} {i : Int32} (C : CK X cc nL own fr lo) (hty : newarray.typeOf atype = ty) (h0 : (gty X.2.2.1)[t0]? = some (X.2.2.1.2.1 kd, ty)) (h100 : ¬ kd < 100) (hra : va_RA X.1.2.2.2.2.1 (X.2.2.1.2.1 kd) ty = (X.1.2.2.2.2.1.vm.findClass ("[" ++ ty.toString) = some (X.2.2.1.2.1 kd)))
    (hb8 : componentBytes ty ≤ 8) (hdv : ∀ n j : Nat, defaultValue ty = if kdf (kd, n) j = 0 then .int 0 else if kdf (kd, n) j = 1 then .long 0 else .null) (w : Cond.arrayClass ty ∈ gws) (h : nA M kd i = some M') (d : decode cc pc = .ok (.newarray atype, 2)) (kk : wq X nL (pc + 2) lv (.ref M.1.length :: st) M') : wq X nL pc lv (.int i :: st) M := by
  intro H locs ls h1 h2 h3 h4 h5
  obtain ⟨hx, hb, hml, hown, hts, hK, hB, hlk, hRc, hRs, -⟩ := C
  subst hty
  unfold nA at h
  split at h
  · rename_i hlim
    cases h
    obtain ⟨hi0, hlm1, hlm2⟩ := hlim
    have hl1 : M.1.length - X.2.2.2.1.1.length + 1 ≤ X.1.2.2.2.1.cells := by rw [hRc]; omega
    have hl2 : mS M - mS X.2.2.2.1 + i.toNatClampNeg ≤ X.1.2.2.2.1.slots := by rw [hRs]; omega
    have hbytes : i.toNatClampNeg * componentBytes (newarray.typeOf atype) ≤ 536870912 := by
      have h9 : i.toNatClampNeg ≤ 7293034 := by unfold SLM at hlm2; omega
      calc i.toNatClampNeg * componentBytes (newarray.typeOf atype) ≤ 7293034 * 8 := Nat.mul_le_mul h9 hb8
        _ ≤ 536870912 := by decide
    refine va_newaK hx hb (hts _ w) rfl d rfl hi0 rfl hbytes hl1 hl2 h1.1 fun H' cA g1 g2 g3 hAr hNm => ?_
    have hcA : cA = X.2.2.1.2.1 kd := by
      have h9 := (hK.2 t0 _ h0).2
      rw [hra] at h9
      exact Option.some.inj (hNm.symm.trans h9)
    have hc' : HC X.2.2.1 (nwM M (kd, i.toNatClampNeg) i.toNatClampNeg) H' := by
      refine h1.push (t := (kd, i.toNatClampNeg)) rfl (fun k i t' hk => cv_nw hk) (by rw [g2, h1.1]) (fun q hq => g3 q (by rw [← h1.1]; exact hq)) fun _ => ?_
      unfold cellAt
      rw [if_neg h100, g1, hcA]
      congr 2
      funext j
      rw [cv_new, hdv i.toNatClampNeg j]
    have e1 : (nwM M (kd, i.toNatClampNeg) i.toNatClampNeg).1.length = M.1.length + 1 := by simp [nwM]
    have e2 : mS (nwM M (kd, i.toNatClampNeg) i.toNatClampNeg) = mS M + i.toNatClampNeg := rfl
    have hW := kk H' locs ls hc' (S_new h2 (by rw [g2, h1.1]; omega) (fun q hq => g3 q (by rw [← h1.1]; exact hq))) h3 (by rw [e1]; omega) (by rw [e2]; omega)
    rw [e1, e2, show M.1.length + 1 - X.2.2.2.1.1.length = M.1.length - X.2.2.2.1.1.length + 1 by omega, show mS M + i.toNatClampNeg - mS X.2.2.2.1 = mS M - mS X.2.2.2.1 + i.toNatClampNeg by omega] at hW
    exact hW
  · cases h
theorem q_newI {i : Int32} (C : CK X cc nL own fr lo) (w : Cond.arrayClass .int ∈ gws) (h : nA M 100 i = some M') (d : decode cc pc = .ok (.newarray .int, 2)) (kk : wq X nL (pc + 2) lv (.ref M.1.length :: st) M') : wq X nL pc lv (.int i :: st) M := q_newarr 0 100 (atype := .int) (ty := .int) C rfl rfl (by decide) rfl (by decide) (fun _ _ => rfl) w h d kk
theorem q_newB {i : Int32} (C : CK X cc nL own fr lo) (w : Cond.arrayClass .byte ∈ gws) (h : nA M 101 i = some M') (d : decode cc pc = .ok (.newarray .byte, 2)) (kk : wq X nL (pc + 2) lv (.ref M.1.length :: st) M') : wq X nL pc lv (.int i :: st) M := q_newarr 1 101 (atype := .byte) (ty := .byte) C rfl rfl (by decide) rfl (by decide) (fun _ _ => rfl) w h d kk
theorem q_newZ {i : Int32} (C : CK X cc nL own fr lo) (w : Cond.arrayClass .boolean ∈ gws) (h : nA M 102 i = some M') (d : decode cc pc = .ok (.newarray .boolean, 2)) (kk : wq X nL (pc + 2) lv (.ref M.1.length :: st) M') : wq X nL pc lv (.int i :: st) M := q_newarr 2 102 (atype := .boolean) (ty := .boolean) C rfl rfl (by decide) rfl (by decide) (fun _ _ => rfl) w h d kk
theorem q_newJ {i : Int32} (C : CK X cc nL own fr lo) (w : Cond.arrayClass .long ∈ gws) (h : nA M 103 i = some M') (d : decode cc pc = .ok (.newarray .long, 2)) (kk : wq X nL (pc + 2) lv (.ref M.1.length :: st) M') : wq X nL pc lv (.int i :: st) M := q_newarr 3 103 (atype := .long) (ty := .long) C rfl rfl (by decide) rfl (by decide) (fun _ _ => rfl) w h d kk
end QA
