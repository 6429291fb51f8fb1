/-! ===== arraycopy, throws, the String constants' members ===== -/
/-- System.arraycopy of ints -/
theorem xws_tab {w : Cond} (h : w ∈ xws) : w.onTables = true := by
  have h1 := (List.mem_filter.mp h).2
  unfold isXw at h1
  split at h1
  · rfl
  · rfl
  · cases h1
section QM
variable {X : CX} {cc : ByteArray} {nL pc fr lo : Nat} {own : String} {lv : List (Nat × Value)} {st : List Value} {M M' : Mem}
theorem q_ineg {x : Int32} (C : CK X cc nL own fr lo) (d : decode cc pc = .ok (.ineg, 1)) (k : wq X nL (pc + 1) lv (.int (-x) :: st) M) : wq X nL pc lv (.int x :: st) M := fun H locs ls h1 h2 h3 h4 h5 => lv_ineg C.1 C.2.1 d (k H locs ls h1 h2 h3 h4 h5)
theorem q_copy {a b idx : Nat} {sp dp n : Int32} (C : CK X cc nL own fr lo) (w1 : Cond.methodLink own idx arraycopyName ∈ gws) (w2 : Cond.native arraycopyName ∈ gws) (w3 : Cond.static arraycopyName ∈ gws) (w4 : Cond.initialized "java/lang/System" ∈ gws) (hfr : 1 ≤ fr) (hlo : (st.map fun v => v.category).sum + (nativeFrameWords "java/lang/System" "arraycopy" 5 + 11) ≤ lo)
    (h : cpI M a sp b dp n = some M') (d : decode cc pc = .ok (.invokestatic idx, 3)) (kk : wq X nL (pc + 3) lv st M') : wq X nL pc lv (.int n :: .int dp :: .ref b :: .int sp :: .ref a :: st) M := by
  intro H locs ls h1 h2 h3 h4 h5
  obtain ⟨hx, hb, hml, hown, hts, hK, hB, hlk, hRc, hRs, hRf, hRl⟩ := C
  unfold cpI at h
  cases hta : tl M 100 a with
  | none => rw [hta] at h; cases h
  | some n0 =>
  cases htb : tl M 100 b with
  | none => rw [hta, htb] at h; cases h
  | some n1 =>
  rw [hta, htb] at h
  simp only [Option.bind_some] at h
  split at h
  · cases h
  · rename_i hcond
    cases h
    have ta := tl_some hta
    have tb := tl_some htb
    have g1 : ¬ sp < 0 := fun z => hcond (Or.inl z)
    have g2 : ¬ dp < 0 := fun z => hcond (Or.inr (Or.inl z))
    have g3 : ¬ n < 0 := fun z => hcond (Or.inr (Or.inr (Or.inl z)))
    have g4 : sp.toNatClampNeg + n.toNatClampNeg ≤ n0 := Nat.not_lt.mp fun z => hcond (Or.inr (Or.inr (Or.inr (Or.inl z))))
    have g5 : dp.toNatClampNeg + n.toNatClampNeg ≤ n1 := Nat.not_lt.mp fun z => hcond (Or.inr (Or.inr (Or.inr (Or.inr z))))
    have nn : ∀ z : Int32, ¬ z < 0 → z.toInt = (z.toNatClampNeg : Int) := by
      intro z hz
      have hz0 : (0 : Int) ≤ z.toInt := by
        have := Int32.not_lt.mp hz
        simpa using Int32.le_iff_toInt_le.mp this
      show z.toInt = ((z.toInt.toNat : Nat) : Int)
      omega
    have hc0 : H[X.2.2.1.2.2.1 + a]? = some (arrV (X.2.2.1.2.1 100) n0 (fun j => .int (M.2.1 a j))) := h1.arr ta (by decide) (by decide)
    have hc1 : H[X.2.2.1.2.2.1 + b]? = some (arrV (X.2.2.1.2.1 100) n1 (fun j => .int (M.2.1 b j))) := h1.arr tb (by decide) (by decide)
    obtain ⟨-, k0, hk0, cm0, hkk0⟩ := (hK.2 0 _ rfl).1 n0 (fun j => .int (M.2.1 a j))
    intro T hT X9
    obtain ⟨vm', X', step⟩ := X9.arraycopy hx hown (hts _ w1) (hts _ w2) (hts _ w3) (hts _ w4) (src := X.2.2.1.2.2.1 + a) (dst := X.2.2.1.2.2.1 + b) (cs := arrV (X.2.2.1.2.1 100) n0 (fun j => .int (M.2.1 a j))) (cd := arrV (X.2.2.1.2.1 100) n1 (fun j => .int (M.2.1 b j))) (srcPos := sp) (destPos := dp) (n := n) (by rw [hT]; exact hc0) (by rw [hT]; exact hc1)
      (fun _ h => by cases h) (fun _ h => by cases h) (fun h => by cases h) (fun h => by cases h) hk0 hk0 hkk0 hkk0 (by simp [FieldType.isReference]) g1 g2 g3
      (by rw [nn sp g1, nn n g3, arrV_size]; omega)
      (by rw [nn dp g2, nn n g3, arrV_size]; omega)
      (fun vm₁ _ i hi => by
        have e : (arrV (X.2.2.1.2.1 100) n0 (fun j => .int (M.2.1 a j))).slots.getD (sp.toNatClampNeg + i) .null = .int (M.2.1 a (sp.toNatClampNeg + i)) := by
          rw [Array.getD_eq_getD_getElem?, arrV_read _ _ (by omega)]
          rfl
        refine ⟨?_, ?_⟩
        · rw [e]; rfl
        · rw [e]; exact trivial)
      (g := F0 X.1.2.2.2.2.2 pc ls (.int n :: .int dp :: .ref (X.2.2.1.2.2.1 + b) :: .int sp :: .ref (X.2.2.1.2.2.1 + a) :: st.map (re X.2.2.1))) rfl (by rw [hml]; exact h3.1) (rest := st.map (re X.2.2.1)) rfl (by rw [hb]; exact d) (by rw [hRf]; exact hfr) (by rw [hRl, sum_re]; show 2 * 0 + _ + _ ≤ _; omega)
    have e1 : copied (arrV (X.2.2.1.2.1 100) n0 (fun j => .int (M.2.1 a j))) (arrV (X.2.2.1.2.1 100) n1 (fun j => .int (M.2.1 b j))) sp dp n = arrV (X.2.2.1.2.1 100) n1 (fun j => .int (va_cpy (M.2.1 a) (M.2.1 b) sp.toNatClampNeg dp.toNatClampNeg n.toNatClampNeg j)) := va_copied (fun z => .int z) _ _ (M.2.1 a) (M.2.1 b) g4
    rw [e1] at X' step
    have hl : X.2.2.1.2.2.1 + b < H.size := (Array.getElem?_eq_some_iff.mp hc1).1
    generalize hH' : H.setIfInBounds (X.2.2.1.2.2.1 + b) (arrV (X.2.2.1.2.1 100) n1 (fun j => .int (va_cpy (M.2.1 a) (M.2.1 b) sp.toNatClampNeg dp.toNatClampNeg n.toNatClampNeg j))) = H' at *
    have hheap : ((T.setVm vm').setCell (X.2.2.1.2.2.1 + b) (arrV (X.2.2.1.2.1 100) n1 (fun j => .int (va_cpy (M.2.1 a) (M.2.1 b) sp.toNatClampNeg dp.toNatClampNeg n.toNatClampNeg j)))).heap = H' := by rw [← hH', ← hT]; rfl
    have oq : ∀ q : Nat, q ≠ X.2.2.1.2.2.1 + b → H'[q]? = H[q]? := fun q hq => by rw [← hH']; simp [Array.getElem?_setIfInBounds, Ne.symm hq]
    have hsz : H'.size = H.size := by rw [← hH']; simp
    have hC' : HC X.2.2.1 (M.1, rw1 M.2.1 b (va_cpy (M.2.1 a) (M.2.1 b) sp.toNatClampNeg dp.toNatClampNeg n.toNatClampNeg), M.2.2) H' := by
      refine ⟨by rw [hsz]; exact h1.1, fun k t' hk hk2 => ?_⟩
      have hk' : M.1[k]? = some t' := hk
      by_cases hkb : k = b
      · subst hkb
        cases Option.some.inj (tb.symm.trans hk')
        unfold cellAt
        rw [if_neg (show ¬ (100 : Nat) < 100 by decide), ← hH']
        simp only [Array.getElem?_setIfInBounds, hl, if_true]
        congr 2
        funext j
        simp [cv, kdf, mI, rw1, re]
      · refine (h1.2 k t' hk' hk2).kept (oq _ (by omega)) fun i => ?_
        unfold cv mI mL mP
        simp [rw1, hkb]
    obtain ⟨t, a1, b1⟩ := kk H' _ ls hC' (show va_S (gA X.2.2.1) _ H' (locs ++ _) from ⟨by rw [hsz]; exact h2.1, fun q z1 z2 => by
        rw [oq q (fun e => z2 (by rw [e]; exact Nat.le_add_right _ _))]
        exact h2.2.1 q z1 z2, fun q hq => by
        rcases List.mem_append.mp hq with h | h
        · exact h2.2.2 q h
        · obtain ⟨z, -, hz⟩ := List.mem_map.mp h
          rw [← hz]
          exact Nat.le_add_right _ _⟩) h3 h4 h5 _ hheap X'
    exact ⟨t, step t a1, b1⟩
def xNm : List String := ["java/lang/RuntimeException", "java/lang/Exception"]
/-- throw new E("text") -/
theorem q_throw {e0 ik is ic i : Nat} {text : String} {ret : Option FieldType} (C : CK X cc nL own fr lo) (F : FIN X ret (.inr e0) M') (hl : X.1.2.1.stackTraces = false) (hcls : Bundle.fit (exN e0) = true) (w1 : Cond.classLink own ik (exN e0) ∈ gws) (w2 : Cond.initialized (exN e0) ∈ gws) (hs : strT[i]? = some (own, is, text)) (hat : ∀ w ∈ vx_atS own ic (exN e0) xNm, w ∈ gws ∨ w ∈ xws) (hgood : ∀ w ∈ Cond.classLink own ik (exN e0) :: Cond.initialized (exN e0) :: vx_atS own ic (exN e0) xNm, vx_ot w = true)
    (h : nX M = some M') (d0 : decode cc pc = .ok (.new ik, 3)) (d3 : decode cc (pc + 3) = .ok (.dup, 1)) (d4 : decode cc (pc + 4) = .ok (.ldc is, 2)) (d6 : decode cc (pc + 6) = .ok (.invokespecial ic, 3)) (d9 : decode cc (pc + 9) = .ok (.athrow, 1)) (hfr : 5 < fr) (hlo : (st.map fun v => v.category).sum + 82 ≤ lo) : wq X nL pc lv st M := by
  intro H locs ls h1 h2 h3 h4 h5
  obtain ⟨hx, hb, hml, hown, hts, hK, hB, hlk, hRc, hRs, hRf, hRl⟩ := C
  obtain ⟨hQ, hr, hno, hRO⟩ := F
  unfold nX at h
  split at h
  · rename_i hlim
    cases h
    rw [hQ]
    have e1 : (nwM M (200, 0) 6).1.length = M.1.length + 1 := by simp [nwM]
    have e2 : mS (nwM M (200, 0) 6) = mS M + 6 := rfl
    refine xk_throwS hx hb hl (names := xNm) (ik := ik) (is := is) (ic := ic) hown hcls (by decide) (hts _ w1) (hts _ w2) (hRO.2.1 i _ hs) (fun w hw => ?_) hgood hRO.2.2.2.1 hRO.2.2.2.2.1 h2 (h3.1.trans hml.symm) d0 d3 d4 d6 d9 (fun x hx => (hno x hx).elim) (by rw [hRf]; exact hfr) (by rw [hRl, sum_re]; show _ + (13 * 3 + 43) ≤ _; omega) (by rw [hRc]; omega) (by rw [hRs]; omega) hlk (fun t hA hz ho => ?_) h2.2.2 (by rw [e1]; omega) (by rw [e2]; omega)
    · rcases hat w hw with h | h
      · exact hts w h
      · exact va_tabs (xws_tab h) rfl (hRO.2.2.2.2.2.1 w h)
    · refine ⟨⟨e0, rfl, rfl, h1.push (t := (200, 0)) rfl (fun k i t' hk => cv_nw hk) hz (fun q hq => ho q hq) (fun z => absurd z (by decide)), ⟨by rw [e1]; omega, by rw [e1]; omega⟩, ⟨by rw [e2]; omega, by rw [e2]; omega⟩⟩, ?_⟩
      exact ⟨Nat.le_trans h2.1 (by rw [hz]; omega), fun q z1 z2 => (ho q (Nat.lt_of_lt_of_le z1 h2.1)).trans (h2.2.1 q z1 z2)⟩
  · cases h
theorem q_throwW {e0 ik is ic i : Nat} {text : String} {ret : Option FieldType} (C : CK X cc nL own fr lo) (F : FIN X ret (.inr e0) M') (hl : X.1.2.1.stackTraces = false) (hcls : Bundle.fit (exN e0) = true) (w1 : Cond.classLink own ik (exN e0) ∈ gws) (w2 : Cond.initialized (exN e0) ∈ gws) (hs : strT[i]? = some (own, is, text)) (hat : ∀ w ∈ vx_atS own ic (exN e0) xNm, w ∈ gws ∨ w ∈ xws) (hgood : ∀ w ∈ Cond.classLink own ik (exN e0) :: Cond.initialized (exN e0) :: vx_atS own ic (exN e0) xNm, vx_ot w = true)
    (h : nX M = some M') (d0 : decode cc pc = .ok (.new ik, 3)) (d3 : decode cc (pc + 3) = .ok (.dup, 1)) (d4 : decode cc (pc + 4) = .ok (.ldc_w is, 3)) (d6 : decode cc (pc + 7) = .ok (.invokespecial ic, 3)) (d9 : decode cc (pc + 10) = .ok (.athrow, 1)) (hfr : 5 < fr) (hlo : (st.map fun v => v.category).sum + 82 ≤ lo) : wq X nL pc lv st M := by
  intro H locs ls h1 h2 h3 h4 h5
  obtain ⟨hx, hb, hml, hown, hts, hK, hB, hlk, hRc, hRs, hRf, hRl⟩ := C
  obtain ⟨hQ, hr, hno, hRO⟩ := F
  unfold nX at h
  split at h
  · rename_i hlim
    cases h
    rw [hQ]
    have e1 : (nwM M (200, 0) 6).1.length = M.1.length + 1 := by simp [nwM]
    have e2 : mS (nwM M (200, 0) 6) = mS M + 6 := rfl
    refine xk_throwSW hx hb hl (names := xNm) (ik := ik) (is := is) (ic := ic) hown hcls (by decide) (hts _ w1) (hts _ w2) (hRO.2.1 i _ hs) (fun w hw => ?_) hgood hRO.2.2.2.1 hRO.2.2.2.2.1 h2 (h3.1.trans hml.symm) d0 d3 d4 d6 d9 (fun x hx => (hno x hx).elim) (by rw [hRf]; exact hfr) (by rw [hRl, sum_re]; show _ + (13 * 3 + 43) ≤ _; omega) (by rw [hRc]; omega) (by rw [hRs]; omega) hlk (fun t hA hz ho => ?_) h2.2.2 (by rw [e1]; omega) (by rw [e2]; omega)
    · rcases hat w hw with h | h
      · exact hts w h
      · exact va_tabs (xws_tab h) rfl (hRO.2.2.2.2.2.1 w h)
    · refine ⟨⟨e0, rfl, rfl, h1.push (t := (200, 0)) rfl (fun k i t' hk => cv_nw hk) hz (fun q hq => ho q hq) (fun z => absurd z (by decide)), ⟨by rw [e1]; omega, by rw [e1]; omega⟩, ⟨by rw [e2]; omega, by rw [e2]; omega⟩⟩, ?_⟩
      exact ⟨Nat.le_trans h2.1 (by rw [hz]; omega), fun q z1 z2 => (ho q (Nat.lt_of_lt_of_le z1 h2.1)).trans (h2.2.1 q z1 z2)⟩
  · cases h
theorem q_ldcS {i index : Nat} {tx : String} (C : CK X cc nL own fr lo) (hRO : RO X.2.2.1 X.1.2.2.2.2.1 X.1.2.2.2.2.1.heap) (hs : strT[i]? = some (own, index, tx)) (d : decode cc pc = .ok (.ldc index, 2)) (k : wq X nL (pc + 2) lv (.retAddr i :: st) M) : wq X nL pc lv st M := fun H locs ls h1 h2 h3 h4 h5 => va_ldcS C.1 C.2.1 C.2.2.2.1 (hRO.2.1 i _ hs) d (k H locs ls h1 h2 h3 h4 h5)
/-- a new array of references -/
theorem q_newR {idx : Nat} {i : Int32} (C : CK X cc nL own fr lo) (hRO : RO X.2.2.1 X.1.2.2.2.2.1 X.1.2.2.2.2.1.heap) (w1 : Cond.classLink own idx "HornHouses$State" ∈ gws) (h : nA M 104 i = some M') (d : decode cc pc = .ok (.anewarray idx, 3)) (kk : wq X nL (pc + 3) lv (.ref M.1.length :: st) M') : wq X nL pc lv (.int i :: st) M := by
  intro H locs ls h1 h2 h3 h4 h5
  obtain ⟨hx, hb, hml, hown, hts, hK, hB, hlk, hRc, hRs, -⟩ := C
  unfold nA at h
  split at h
  · rename_i hlim
    cases h
    obtain ⟨hi0, hlm1, hlm2⟩ := hlim
    have hl1 : M.1.length - X.2.2.2.1.1.length + 1 ≤ X.1.2.2.2.1.cells := by rw [hRc]; omega
    have hl2 : mS M - mS X.2.2.2.1 + i.toNatClampNeg ≤ X.1.2.2.2.1.slots := by rw [hRs]; omega
    have hbytes : i.toNatClampNeg * 4 ≤ 536870912 := by unfold SLM at hlm2; omega
    refine W.anew hx hb hown (hts _ w1) (va_AO.use hRO.2.2.2.2.2.2.1) rfl d rfl hi0 hbytes hl1 hl2 fun cA kA comp g1 g2 g3 g4 => ?_
    have hcA : cA = X.2.2.1.2.1 104 := by
      obtain ⟨kA', comp', k1, k2, k3, k4⟩ := (hK.2 4 _ rfl).2
      exact Option.some.inj (g1.symm.trans k4)
    rw [arrV_new]
    have hc' : HC X.2.2.1 (nwM M (104, i.toNatClampNeg) i.toNatClampNeg) (H.push (arrV cA i.toNatClampNeg (fun _ => .null))) := by
      refine h1.push (t := (104, i.toNatClampNeg)) rfl (fun k i t' hk => cv_nw hk) (by simp) (fun q hq => by rw [Array.getElem?_push, if_neg (Nat.ne_of_lt hq)]) fun _ => ?_
      unfold cellAt
      rw [if_neg (show ¬ (104 : Nat) < 100 by decide), hcA, ← h1.1]
      simp only [Array.getElem?_push, if_true]
      congr 2
      funext j
      rw [cv_new]
      rfl
    have e1 : (nwM M (104, i.toNatClampNeg) i.toNatClampNeg).1.length = M.1.length + 1 := by simp [nwM]
    have e2 : mS (nwM M (104, i.toNatClampNeg) i.toNatClampNeg) = mS M + i.toNatClampNeg := rfl
    have hW := kk (H.push (arrV cA i.toNatClampNeg (fun _ => .null))) locs ls hc' (S_new h2 (by simp) (fun q hq => by rw [Array.getElem?_push, if_neg (Nat.ne_of_lt hq)])) h3 (by rw [e1]; omega) (by rw [e2]; omega)
    rw [e1, e2, show M.1.length + 1 - X.2.2.2.1.1.length = M.1.length - X.2.2.2.1.1.length + 1 by omega, show mS M + i.toNatClampNeg - mS X.2.2.2.1 = mS M - mS X.2.2.2.1 + i.toNatClampNeg by omega] at hW
    have hz : H.size = X.2.2.1.2.2.1 + M.1.length := h1.1
    rw [hz]
    exact hW
  · cases h
end QM
