/-! ===== Math, Strings, and what is still wanting ===== -/
section QP
variable {X : CX} {cc : ByteArray} {nL pc fr lo : Nat} {own : String} {lv : List (Nat × Value)} {st : List Value} {M M' : Mem}
theorem CK.room {C : CK X cc nL own fr lo} (h4 : X.2.2.2.1.1.length ≤ M.1.length ∧ M.1.length ≤ CLM) (h5 : mS X.2.2.2.1 ≤ mS M ∧ mS M ≤ SLM) : M.1.length - X.2.2.2.1.1.length ≤ X.1.2.2.2.1.cells ∧ mS M - mS X.2.2.2.1 ≤ X.1.2.2.2.1.slots := by
  obtain ⟨hx, hb, hml, hown, hts, hK, hB, hlk, hRc, hRs, hRf, hRl⟩ := C
  rw [hRc, hRs]; omega
theorem q_mmax {idx : Nat} {x y : Int32} (C : CK X cc nL own fr lo) (w1 : Cond.methodLink own idx Lib.Math.max.name ∈ gws) (w2 : Cond.static Lib.Math.max.name ∈ gws) (w3 : Cond.initialized "java/lang/Math" ∈ gws) (w4 : Cond.code Lib.Math.max.name Lib.Math.max.code 2 (some .int) ∈ gws) (hfr : 1 ≤ fr) (hlo : (st.map fun v => v.category).sum + 13 ≤ lo) (d : decode cc pc = .ok (.invokestatic idx, 3)) (k : wq X nL (pc + 3) lv (.int (mxI x y) :: st) M) : wq X nL pc lv (.int y :: .int x :: st) M := fun H locs ls h1 h2 h3 h4 h5 =>
  va_mmax C.1 C.2.1 (C.2.2.1.trans h3.1.symm) C.2.2.2.1 (C.2.2.2.2.1 _ w1) (C.2.2.2.2.1 _ w2) (C.2.2.2.2.1 _ w3) (C.2.2.2.2.1 _ w4) (by rw [C.2.2.2.2.2.2.2.2.2.2.1]; exact hfr) (by rw [C.2.2.2.2.2.2.2.2.2.2.2, sum_re]; exact hlo) (CK.room (C := C) h4 h5).1 (CK.room (C := C) h4 h5).2 d (k H locs ls h1 h2 h3 h4 h5)
theorem q_mmin {idx : Nat} {x y : Int32} (C : CK X cc nL own fr lo) (w1 : Cond.methodLink own idx Lib.Math.min.name ∈ gws) (w2 : Cond.static Lib.Math.min.name ∈ gws) (w3 : Cond.initialized "java/lang/Math" ∈ gws) (w4 : Cond.code Lib.Math.min.name Lib.Math.min.code 2 (some .int) ∈ gws) (hfr : 1 ≤ fr) (hlo : (st.map fun v => v.category).sum + 13 ≤ lo) (d : decode cc pc = .ok (.invokestatic idx, 3)) (k : wq X nL (pc + 3) lv (.int (mnI x y) :: st) M) : wq X nL pc lv (.int y :: .int x :: st) M := fun H locs ls h1 h2 h3 h4 h5 =>
  va_mmin C.1 C.2.1 (C.2.2.1.trans h3.1.symm) C.2.2.2.1 (C.2.2.2.2.1 _ w1) (C.2.2.2.2.1 _ w2) (C.2.2.2.2.1 _ w3) (C.2.2.2.2.1 _ w4) (by rw [C.2.2.2.2.2.2.2.2.2.2.1]; exact hfr) (by rw [C.2.2.2.2.2.2.2.2.2.2.2, sum_re]; exact hlo) (CK.room (C := C) h4 h5).1 (CK.room (C := C) h4 h5).2 d (k H locs ls h1 h2 h3 h4 h5)
theorem q_mabs {idx : Nat} {x : Int32} (C : CK X cc nL own fr lo) (w1 : Cond.methodLink own idx Lib.Math.abs.name ∈ gws) (w2 : Cond.static Lib.Math.abs.name ∈ gws) (w3 : Cond.initialized "java/lang/Math" ∈ gws) (w4 : Cond.code Lib.Math.abs.name Lib.Math.abs.code 1 (some .int) ∈ gws) (hfr : 1 ≤ fr) (hlo : (st.map fun v => v.category).sum + 13 ≤ lo) (d : decode cc pc = .ok (.invokestatic idx, 3)) (k : wq X nL (pc + 3) lv (.int (abI x) :: st) M) : wq X nL pc lv (.int x :: st) M := fun H locs ls h1 h2 h3 h4 h5 =>
  va_mabs C.1 C.2.1 (C.2.2.1.trans h3.1.symm) C.2.2.2.1 (C.2.2.2.2.1 _ w1) (C.2.2.2.2.1 _ w2) (C.2.2.2.2.1 _ w3) (C.2.2.2.2.1 _ w4) (by rw [C.2.2.2.2.2.2.2.2.2.2.1]; exact hfr) (by rw [C.2.2.2.2.2.2.2.2.2.2.2, sum_re]; exact hlo) (CK.room (C := C) h4 h5).1 (CK.room (C := C) h4 h5).2 d (k H locs ls h1 h2 h3 h4 h5)
end QP
theorem lt_J0_length {i : Nat} {v : Int32} (h : F_J0_length i = some v) : i < nStr := by
  unfold F_J0_length at h
  split at h
  · rename_i z; exact z
  · cases h
theorem lt_J0_charAt {i : Nat} {k v : Int32} (h : F_J0_charAt i k = some v) : i < nStr := by
  unfold F_J0_charAt at h
  split at h
  · rename_i z; exact z.1
  · cases h
