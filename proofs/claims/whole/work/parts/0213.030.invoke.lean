/-! ===== calls over the memory in numbers ===== -/
section QI
variable {X : CX} {cc : ByteArray} {nL pc fr lo : Nat} {own : String} {lv : List (Nat × Value)} {st : List Value} {M M' : Mem}
theorem PcR_blind (G : GG) (as : List Value) (M : Mem) : FrameBlind (PcR G as M) := fun a U g mk q => by
  obtain ⟨h1, h2, h3, h4, h5, h6⟩ := q
  exact ⟨h1, h2, h3, va_K.moved (u := U) (U := U.calling g mk a) (Vm.Alike.refl U.vm) h4, RO.warm (s := U) (U := U.calling g mk a) (State.WarmedH.refl U) h5, h6⟩
theorem Ct_back {y : MethodName} {bytes : ByteArray} {maxL fr' lo' : Nat} {ret : Option FieldType} {as : List Value} {r : Rs} (C : CK X cc nL own fr lo) (hc : Ct X.1.2.1 X.2.2.1 y (.code y bytes maxL ret) fr' lo' as M r M') (w1 : Cond.code y bytes maxL ret ∈ gws) (w2 : Cond.initialized y.cls ∈ gws) (hfr : fr' + 1 ≤ fr) (hlo : 8 + (maxL + 11) + lo' ≤ lo) :
    vx_Back X.1.2.1 X.1.2.2.2.1 X.1.1 X.1.2.2.1 X.2.1.2.1 X.1.2.2.2.2.1 X.2.1.1 y 3 8 (xk_Pre X.1.2.2.2.1 { frames := fr', cells := CLM - M.1.length, slots := SLM - mS M, locals := lo' } (PcR X.2.2.1 as M)) (PostOf (QcR X.2.2.1 M r M') (M'.1.length - M.1.length) (mS M' - mS M) (gA X.2.2.1)) (vx_Post (XcR X.2.2.1 M r M') (M'.1.length - M.1.length) (mS M' - mS M) (gA X.2.2.1)) := by
  obtain ⟨hx, hb, hml, hown, hts, hK, hB, hlk, hRc, hRs, hRf, hRl⟩ := C
  have hg : ∀ w ∈ gws, ∀ (a' : Array Value) (U : State), X.1.2.2.2.2.1.WarmedH U.vm → w.before a' U = true := fun w hw a' U hW => word_at hW (good_of_word (List.mem_filter.mp hw).2) (hts w hw)
  refine xk_back (bytes := bytes) (maxL := maxL) (ret := ret) hc (PcR_blind _ _ _) ?_ ?_ ?_ List.mem_cons_self (hg _ w2)
  · show fr' + 1 ≤ _; rw [hRf]; exact hfr
  · show 8 + (maxL + 11) + lo' ≤ _; rw [hRl]; exact hlo
  · intro w hw
    rcases List.mem_cons.mp hw with h | h
    · rw [h]; exact hg _ w1
    · exact hg w h
/-- what a call gives, however it's made -/
def CRes (X : CX) (T : State) (locs : List Loc) (cells slots : Nat) (g : JFrame) (rest : List Value) (a : Array Value) (Post : Pt → Array Value → Option Value → Pt → Prop) (PostX : Pt → Array Value → Addr → Pt → Prop) : Prop :=
    (∃ (v : Option Value) (vm₁ : Vm) (B : Pt), X.1.2.2.2.2.1.WarmedH vm₁ ∧ Stand X.1.1 X.1.2.1 X.1.2.2.1 X.1.2.2.2.1 X.1.2.2.2.2.1 X.1.2.2.2.2.2 X.2.1.1 X.2.1.2.1 X.2.1.2.2.1 X.2.1.2.2.2 B.U B.locs B.cells B.slots ∧ Post ⟨T.setVm vm₁, locs, cells, slots⟩ a v B ∧
      ∀ target, Steps X.1.1.tables X.1.2.2.1 X.2.1.2.1 (B.U.setTop { g with pc := g.pc + 3, stack := v.toList ++ rest }) target → Steps X.1.1.tables X.1.2.2.1 X.2.1.2.1 (T.setTop g) target) ∨
    (∃ (q : Addr) (vm₁ : Vm) (B : Pt), X.1.2.2.2.2.1.WarmedH vm₁ ∧ Stand X.1.1 X.1.2.1 X.1.2.2.1 X.1.2.2.2.1 X.1.2.2.2.2.1 X.1.2.2.2.2.2 X.2.1.1 X.2.1.2.1 X.2.1.2.2.1 X.2.1.2.2.2 B.U B.locs B.cells B.slots ∧ PostX ⟨T.setVm vm₁, locs, cells, slots⟩ a q B ∧
      Steps X.1.1.tables X.1.2.2.1 X.2.1.2.1 (T.setTop g) ((B.U.setTop { g with stack := rest }).pushFrame (.throwing q)))
theorem S_call {G : GG} {H0 H : Heap} {locs L : List Loc} {t st₀ : State} (hS : va_S (gA G) H0 H locs) (h0 : st₀.heap = H) (hF : va_F (gA G) st₀ t) (hL : ∀ q ∈ L, gA G q.base) : va_S (gA G) H0 t.heap (locs ++ L) := by
  obtain ⟨f1, f2⟩ := hF
  rw [h0] at f1 f2
  refine ⟨Nat.le_trans hS.1 f1, fun q h1 h2 => (f2 q (Nat.lt_of_lt_of_le h1 hS.1) h2).trans (hS.2.1 q h1 h2), fun q hq => ?_⟩
  rcases List.mem_append.mp hq with h | h
  · exact hS.2.2 q h
  · exact hL q h
theorem CRes.ret {T : State} {H : Heap} {locs : List Loc} {ls : Array Slot} {sk : List Value} {a : Array Value} {v : Option Value} (hT : T.heap = H) (h2 : va_S (gA X.2.2.1) X.1.2.2.2.2.1.heap H locs) (h3 : lv_has ls nL (lvm X.2.2.1 lv)) (h4 : X.2.2.2.1.1.length ≤ M.1.length ∧ M.1.length ≤ CLM) (h5 : mS X.2.2.2.1 ≤ mS M ∧ mS M ≤ SLM)
    (hr : CRes X T locs (M.1.length - X.2.2.2.1.1.length) (mS M - mS X.2.2.2.1) (F0 X.1.2.2.2.2.2 pc ls (sk.map (re X.2.2.1))) (st.map (re X.2.2.1)) a (PostOf (QcR X.2.2.1 M (.inl v) M') (M'.1.length - M.1.length) (mS M' - mS M) (gA X.2.2.1)) (vx_Post (XcR X.2.2.1 M (.inl v) M') (M'.1.length - M.1.length) (mS M' - mS M) (gA X.2.2.1)))
    (kk : wq X nL (pc + 3) lv (v.toList ++ st) M') : ∃ t, Steps X.1.1.tables X.1.2.2.1 X.2.1.2.1 (T.setTop (F0 X.1.2.2.2.2.2 pc ls (sk.map (re X.2.2.1)))) t ∧ X.2.2.2.2 t := by
  rcases hr with ⟨v', vm₁, ⟨U', l2, c2, s2⟩, hW₁, X', ⟨g', mk, t, L, e1, e2, ⟨⟨v1, hv1, hv2, hC, hl1, hl2⟩, hF⟩, q1, hL, q2, q3⟩, go⟩ | ⟨q, vm₁, B, hW₁, X', ⟨g', mk, t, L, E, ce, e1, e2, ⟨⟨e9, he, -⟩, -⟩, -⟩, go⟩
  · cases hv1
    cases hv2
    dsimp only [Pt.U, Pt.locs, Pt.cells, Pt.slots] at X' e1 e2 q1 q2 q3 go
    subst q1; subst q2; subst q3
    have hS := S_call h2 (st₀ := (T.setVm vm₁).calling g' mk a) hT hF hL
    rw [← e1] at hS hC
    have hW := kk U'.heap (locs ++ L) ls hC hS h3 ⟨Nat.le_trans h4.1 hl1.1, hl1.2⟩ ⟨Nat.le_trans h5.1 hl2.1, hl2.2⟩
    rw [show M'.1.length - X.2.2.2.1.1.length = M.1.length - X.2.2.2.1.1.length + (M'.1.length - M.1.length) by omega, show mS M' - mS X.2.2.2.1 = mS M - mS X.2.2.2.1 + (mS M' - mS M) by omega] at hW
    obtain ⟨t2, a1, b1⟩ := hW U' rfl X'
    refine ⟨t2, go t2 ?_, b1⟩
    rw [List.map_append] at a1
    cases v
    · exact a1
    · exact a1
  · cases he
theorem CRes.thr {T : State} {H : Heap} {locs : List Loc} {ls : Array Slot} {sk : List Value} {a : Array Value} {e0 : Nat} {ret : Option FieldType} (F : FIN X ret (.inr e0) M') (hlk : X.2.1.2.2.1.locks = false) (hT : T.heap = H) (h2 : va_S (gA X.2.2.1) X.1.2.2.2.2.1.heap H locs) (h4 : X.2.2.2.1.1.length ≤ M.1.length ∧ M.1.length ≤ CLM) (h5 : mS X.2.2.2.1 ≤ mS M ∧ mS M ≤ SLM)
    (hr : CRes X T locs (M.1.length - X.2.2.2.1.1.length) (mS M - mS X.2.2.2.1) (F0 X.1.2.2.2.2.2 pc ls (sk.map (re X.2.2.1))) (st.map (re X.2.2.1)) a (PostOf (QcR X.2.2.1 M (.inr e0) M') (M'.1.length - M.1.length) (mS M' - mS M) (gA X.2.2.1)) (vx_Post (XcR X.2.2.1 M (.inr e0) M') (M'.1.length - M.1.length) (mS M' - mS M) (gA X.2.2.1))) :
    ∃ t, Steps X.1.1.tables X.1.2.2.1 X.2.1.2.1 (T.setTop (F0 X.1.2.2.2.2.2 pc ls (sk.map (re X.2.2.1)))) t ∧ X.2.2.2.2 t := by
  rcases hr with ⟨v', vm₁, B, hW₁, X', ⟨g', mk, t, L, e1, e2, ⟨⟨v1, hv1, -⟩, -⟩, -⟩, go⟩ | ⟨q, vm₁, ⟨U', l2, c2, s2⟩, hW₁, X', ⟨g', mk, t, L, E, ce, e1, e2, ⟨⟨e9, he, hE, hC, hl1, hl2⟩, hF⟩, hce, hcv, hcl, q1, hL, q2, q3⟩, go⟩
  · cases hv1
  · cases he
    dsimp only [Pt.U, Pt.locs, Pt.cells, Pt.slots] at X' e1 e2 q1 q2 q3 go hcl
    subst q1; subst q2; subst q3
    have hS := S_call h2 (st₀ := (T.setVm vm₁).calling g' mk a) hT hF hL
    obtain ⟨hQ, hrt, hno, -⟩ := F
    have hx : vx_W X.1.1 X.1.2.1 X.1.2.2.1 X.1.2.2.2.1 X.1.2.2.2.2.1 X.1.2.2.2.2.2 X.2.1.1 X.2.1.2.1 X.2.1.2.2.1 X.2.1.2.2.2 U'.heap (locs ++ L) (M.1.length - X.2.2.2.1.1.length + (M'.1.length - M.1.length)) (mS M - mS X.2.2.2.1 + (mS M' - mS M)) (vx_MQ X.2.1.2.1 (QcR X.2.2.1 X.2.2.2.1 (.inr e0) M') (XcR X.2.2.1 X.2.2.2.1 (.inr e0) M') X.2.1.1 X.1.2.2.2.2.1 (M'.1.length - X.2.2.2.1.1.length) (mS M' - mS X.2.2.2.1) (gA X.2.2.1)) (F0 X.1.2.2.2.2.2 pc ls (st.map (re X.2.2.1))) q := by
      refine vx_out (E := E) (ce := ce) (fun x hx => (hno x hx).elim) hlk (by rw [e1]; exact hce) hcv (vx_cls hW₁ hcl) (fun t9 ht9 hA9 => ?_) hS.2.2 (by omega) (by omega)
      refine ⟨⟨e0, rfl, hE, by rw [ht9, e1]; exact hC, ⟨Nat.le_trans h4.1 hl1.1, hl1.2⟩, ⟨Nat.le_trans h5.1 hl2.1, hl2.2⟩⟩, ?_⟩
      exact S_F hS t9 (by rw [ht9, e1])
    obtain ⟨t2, a1, b1⟩ := hx U' rfl X'
    rw [hQ]
    exact ⟨t2, go.trans a1, b1⟩
/-- the words of a call -/
def LK (own : String) (idx : Nat) (y : MethodName) (bytes : ByteArray) (maxL : Nat) (ret : Option FieldType) (n : Nat) : Prop :=
  Cond.methodLink own idx y ∈ gws ∧ Cond.code y bytes maxL ret ∈ gws ∧ Cond.initialized y.cls ∈ gws ∧ (y.cls ≠ "java/lang/invoke/MethodHandle" ∧ y.cls ≠ "java/lang/invoke/VarHandle") ∧ ∀ sig, parseMethodDescriptor y.desc = some sig → n = sig.parameters.length
def VK (y : MethodName) : Prop := Cond.instanceMethod y ∈ gws ∧ Cond.selects y.cls y y ∈ gws
theorem sum_re (G : GG) (st : List Value) : ((st.map (re G)).map fun v => v.category).sum = (st.map fun v => v.category).sum := by
  rw [List.map_map]
  exact congrArg List.sum (List.map_congr_left fun a _ => re_cat _ a)
theorem xk_pre {T : State} {locs : List Loc} {H : Heap} {as : List Value} {fr' lo' : Nat} (C : CK X cc nL own fr lo) (hRO : RO X.2.2.1 X.1.2.2.2.2.1 X.1.2.2.2.2.1.heap) (hT : T.heap = H) (h1 : HC X.2.2.1 M H) (h2 : va_S (gA X.2.2.1) X.1.2.2.2.2.1.heap H locs) (h4 : X.2.2.2.1.1.length ≤ M.1.length ∧ M.1.length ≤ CLM) (h5 : mS X.2.2.2.1 ≤ mS M ∧ mS M ≤ SLM) :
    ∀ vm₁, X.1.2.2.2.2.1.WarmedH vm₁ → xk_Pre X.1.2.2.2.1 { frames := fr', cells := CLM - M.1.length, slots := SLM - mS M, locals := lo' } (PcR X.2.2.1 as M) ⟨T.setVm vm₁, locs, M.1.length - X.2.2.2.1.1.length, mS M - mS X.2.2.2.1⟩ (as.map (re X.2.2.1)).toArray := by
  intro vm₁ hW
  obtain ⟨hx, hb, hml, hown, hts, hK, hB, hlk, hRc, hRs, hRf, hRl⟩ := C
  refine ⟨?_, ?_, rfl, ?_, ?_, ?_, ?_, h4.2, h5.2⟩
  · show M.1.length - X.2.2.2.1.1.length + (CLM - M.1.length) ≤ _
    rw [hRc]; omega
  · show mS M - mS X.2.2.2.1 + (SLM - mS M) ≤ _
    rw [hRs]; omega
  · show X.2.2.1.2.2.1 ≤ T.heap.size
    rw [hT]; exact Nat.le_trans hB h2.1
  · show HC X.2.2.1 M T.heap
    rw [hT]; exact h1
  · exact va_K.moved hW.alike hK
  · show RO X.2.2.1 (T.setVm vm₁) T.heap
    rw [hT]
    exact RO.warm (s := X.1.2.2.2.2.1) (U := T.setVm vm₁) hW (hRO.kept fun a ha hna => h2.2.1 a ha hna)
end QI
section QJ
variable {X : CX} {cc : ByteArray} {nL pc fr lo : Nat} {own : String} {lv : List (Nat × Value)} {st sk : List Value} {M M' : Mem} {idx maxL n fr' lo' : Nat} {y : MethodName} {bytes : ByteArray} {ret ret' : Option FieldType}
theorem LK.hl (L : LK own idx y bytes maxL ret n) (As : List Value) (hn : As.length = n) (G : GG) : ∀ sig, parseMethodDescriptor y.desc = some sig → (As.map (re G)).length = sig.parameters.length := fun sig h => by rw [List.length_map, hn]; exact L.2.2.2.2 sig h
theorem recvO {ci b : Nat} {Cn : String} {T : u_T} {N : Nat} {H : Heap} (C : CK X cc nL own fr lo) (h1 : HC X.2.2.1 M H) (hb : M.1[b]? = some (ci, 0)) (hc : vwCl[ci]? = some (Cn, T, N)) : ∃ cell : Cell, H[X.2.2.1.2.2.1 + b]? = some cell ∧ cell.vm.isStatics = false ∧ X.1.2.2.2.2.1.vm.findClass Cn = some cell.cls := by
  obtain ⟨cell, g1, g2, g3, -⟩ := h1.obj hb hc
  exact ⟨cell, g1, by rw [g3]; rfl, by rw [g2]; exact (C.2.2.2.2.2.1.1 ci _ hc).2.1⟩
/-- a method of an object of the world -/
theorem q_callV {ci b N : Nat} {T : u_T} {v : Option Value} (As : List Value) (C : CK X cc nL own fr lo) (hRO : RO X.2.2.1 X.1.2.2.2.2.1 X.1.2.2.2.2.1.heap) (L : LK own idx y bytes maxL ret n) (V : VK y) (hb : M.1[b]? = some (ci, 0)) (hcl : vwCl[ci]? = some (y.cls, T, N)) (hn : As.length = n) (hsk : sk = As.reverse ++ .ref b :: st) (hst : (st.map fun v => v.category).sum ≤ 8)
    (hfr : fr' + 1 ≤ fr) (hlo : 8 + (maxL + 11) + lo' ≤ lo) (d : decode cc pc = .ok (.invokevirtual idx, 3)) (hc : Ct X.1.2.1 X.2.2.1 y (.code y bytes maxL ret) fr' lo' (.ref b :: As) M (.inl v) M') (kk : wq X nL (pc + 3) lv (v.toList ++ st) M') : wq X nL pc lv sk M := by
  intro H locs ls h1 h2 h3 h4 h5 T hT X9
  obtain ⟨cell, g1, g2, g3⟩ := recvO C h1 hb hcl
  refine CRes.ret (a := ((.ref b :: As).map (re X.2.2.1)).toArray) (v := v) hT h2 h3 h4 h5 (vx_callV X9 C.1 (C := y.cls) C.2.2.2.1 (C.2.2.2.2.1 _ L.1) (C.2.2.2.2.1 _ V.1) (C.2.2.2.2.1 _ V.2) (C.2.2.2.2.1 _ L.2.1) L.2.2.2.1 (Ct_back C hc L.2.1 L.2.2.1 hfr hlo) (by rw [hT]; exact g1) g2 g3 rfl (h3.1.trans C.2.2.1.symm) (argsL := As.map (re X.2.2.1)) (rest := st.map (re X.2.2.1)) (L.hl As hn _) ?_ ?_ (by rw [C.2.1]; exact d) (xk_pre C hRO hT h1 h2 h4 h5)) kk
  · show sk.map (re X.2.2.1) = _
    rw [hsk, List.map_append, List.map_reverse]; rfl
  · rw [sum_re]; show 2 * 0 + _ ≤ 8; omega
theorem q_callVX {ci b N e0 : Nat} {T : u_T} (As : List Value) (C : CK X cc nL own fr lo) (F : FIN X ret' (.inr e0) M') (L : LK own idx y bytes maxL ret n) (V : VK y) (hb : M.1[b]? = some (ci, 0)) (hcl : vwCl[ci]? = some (y.cls, T, N)) (hn : As.length = n) (hsk : sk = As.reverse ++ .ref b :: st) (hst : (st.map fun v => v.category).sum ≤ 8)
    (hfr : fr' + 1 ≤ fr) (hlo : 8 + (maxL + 11) + lo' ≤ lo) (d : decode cc pc = .ok (.invokevirtual idx, 3)) (hc : Ct X.1.2.1 X.2.2.1 y (.code y bytes maxL ret) fr' lo' (.ref b :: As) M (.inr e0) M') : wq X nL pc lv sk M := by
  intro H locs ls h1 h2 h3 h4 h5 T hT X9
  obtain ⟨cell, g1, g2, g3⟩ := recvO C h1 hb hcl
  refine CRes.thr (st := st) (a := ((.ref b :: As).map (re X.2.2.1)).toArray) F C.2.2.2.2.2.2.2.1 hT h2 h4 h5 (vx_callV X9 C.1 (C := y.cls) C.2.2.2.1 (C.2.2.2.2.1 _ L.1) (C.2.2.2.2.1 _ V.1) (C.2.2.2.2.1 _ V.2) (C.2.2.2.2.1 _ L.2.1) L.2.2.2.1 (Ct_back C hc L.2.1 L.2.2.1 hfr hlo) (by rw [hT]; exact g1) g2 g3 rfl (h3.1.trans C.2.2.1.symm) (argsL := As.map (re X.2.2.1)) (rest := st.map (re X.2.2.1)) (L.hl As hn _) ?_ ?_ (by rw [C.2.1]; exact d) (xk_pre C F.2.2.2 hT h1 h2 h4 h5))
  · show sk.map (re X.2.2.1) = _
    rw [hsk, List.map_append, List.map_reverse]; rfl
  · rw [sum_re]; show 2 * 0 + _ ≤ 8; omega
/-- a method of a String constant -/
theorem q_callVS {i : Nat} {v : Option Value} (As : List Value) (C : CK X cc nL own fr lo) (hRO : RO X.2.2.1 X.1.2.2.2.2.1 X.1.2.2.2.2.1.heap) (L : LK own idx y bytes maxL ret n) (V : VK y) (hi : i < nStr) (hcl : y.cls = "java/lang/String") (hn : As.length = n) (hsk : sk = As.reverse ++ .retAddr i :: st) (hst : (st.map fun v => v.category).sum ≤ 8)
    (hfr : fr' + 1 ≤ fr) (hlo : 8 + (maxL + 11) + lo' ≤ lo) (d : decode cc pc = .ok (.invokevirtual idx, 3)) (hc : Ct X.1.2.1 X.2.2.1 y (.code y bytes maxL ret) fr' lo' (.retAddr i :: As) M (.inl v) M') (kk : wq X nL (pc + 3) lv (v.toList ++ st) M') : wq X nL pc lv sk M := by
  intro H locs ls h1 h2 h3 h4 h5 T hT X9
  obtain ⟨cell, g1, g2, g3, -⟩ := ((hRO.kept fun a ha hna => h2.2.1 a ha hna).1 i hi).1
  refine CRes.ret (a := ((.retAddr i :: As).map (re X.2.2.1)).toArray) (v := v) hT h2 h3 h4 h5 (vx_callV X9 C.1 (C := y.cls) C.2.2.2.1 (C.2.2.2.2.1 _ L.1) (C.2.2.2.2.1 _ V.1) (C.2.2.2.2.1 _ V.2) (C.2.2.2.2.1 _ L.2.1) L.2.2.2.1 (Ct_back C hc L.2.1 L.2.2.1 hfr hlo) (by rw [hT]; exact g1) g2 (by rw [hcl]; exact g3) rfl (h3.1.trans C.2.2.1.symm) (argsL := As.map (re X.2.2.1)) (rest := st.map (re X.2.2.1)) (L.hl As hn _) ?_ ?_ (by rw [C.2.1]; exact d) (xk_pre C hRO hT h1 h2 h4 h5)) kk
  · show sk.map (re X.2.2.1) = _
    rw [hsk, List.map_append, List.map_reverse]; rfl
  · rw [sum_re]; show 2 * 0 + _ ≤ 8; omega
theorem q_callS {v : Option Value} (As : List Value) (C : CK X cc nL own fr lo) (hRO : RO X.2.2.1 X.1.2.2.2.2.1 X.1.2.2.2.2.1.heap) (L : LK own idx y bytes maxL ret n) (V : Cond.static y ∈ gws) (hn : As.length = n) (hsk : sk = As.reverse ++ st) (hst : (st.map fun v => v.category).sum ≤ 8)
    (hfr : fr' + 1 ≤ fr) (hlo : 8 + (maxL + 11) + lo' ≤ lo) (d : decode cc pc = .ok (.invokestatic idx, 3)) (hc : Ct X.1.2.1 X.2.2.1 y (.code y bytes maxL ret) fr' lo' As M (.inl v) M') (kk : wq X nL (pc + 3) lv (v.toList ++ st) M') : wq X nL pc lv sk M := by
  intro H locs ls h1 h2 h3 h4 h5 T hT X9
  refine CRes.ret (a := (As.map (re X.2.2.1)).toArray) (v := v) hT h2 h3 h4 h5 (vx_callS X9 C.1 C.2.2.2.1 (C.2.2.2.2.1 _ L.1) (C.2.2.2.2.1 _ V) (C.2.2.2.2.1 _ L.2.2.1) (C.2.2.2.2.1 _ L.2.1) L.2.2.2.1 (Ct_back C hc L.2.1 L.2.2.1 hfr hlo) rfl (h3.1.trans C.2.2.1.symm) (argsL := As.map (re X.2.2.1)) (rest := st.map (re X.2.2.1)) (L.hl As hn _) ?_ ?_ (by rw [C.2.1]; exact d) (xk_pre C hRO hT h1 h2 h4 h5)) kk
  · show sk.map (re X.2.2.1) = _
    rw [hsk, List.map_append, List.map_reverse]
  · rw [sum_re]; show 2 * 0 + _ ≤ 8; omega
theorem q_callSX {e0 : Nat} (As : List Value) (C : CK X cc nL own fr lo) (F : FIN X ret' (.inr e0) M') (L : LK own idx y bytes maxL ret n) (V : Cond.static y ∈ gws) (hn : As.length = n) (hsk : sk = As.reverse ++ st) (hst : (st.map fun v => v.category).sum ≤ 8)
    (hfr : fr' + 1 ≤ fr) (hlo : 8 + (maxL + 11) + lo' ≤ lo) (d : decode cc pc = .ok (.invokestatic idx, 3)) (hc : Ct X.1.2.1 X.2.2.1 y (.code y bytes maxL ret) fr' lo' As M (.inr e0) M') : wq X nL pc lv sk M := by
  intro H locs ls h1 h2 h3 h4 h5 T hT X9
  refine CRes.thr (st := st) (a := (As.map (re X.2.2.1)).toArray) F C.2.2.2.2.2.2.2.1 hT h2 h4 h5 (vx_callS X9 C.1 C.2.2.2.1 (C.2.2.2.2.1 _ L.1) (C.2.2.2.2.1 _ V) (C.2.2.2.2.1 _ L.2.2.1) (C.2.2.2.2.1 _ L.2.1) L.2.2.2.1 (Ct_back C hc L.2.1 L.2.2.1 hfr hlo) rfl (h3.1.trans C.2.2.1.symm) (argsL := As.map (re X.2.2.1)) (rest := st.map (re X.2.2.1)) (L.hl As hn _) ?_ ?_ (by rw [C.2.1]; exact d) (xk_pre C F.2.2.2 hT h1 h2 h4 h5))
  · show sk.map (re X.2.2.1) = _
    rw [hsk, List.map_append, List.map_reverse]
  · rw [sum_re]; show 2 * 0 + _ ≤ 8; omega
theorem q_callI {b : Nat} (As : List Value) (C : CK X cc nL own fr lo) (hRO : RO X.2.2.1 X.1.2.2.2.2.1 X.1.2.2.2.2.1.heap) (hy1 : y.name = "<init>") (L : LK own idx y bytes maxL none n) (V : Cond.instanceMethod y ∈ gws) (hn : As.length = n) (hsk : sk = As.reverse ++ .ref b :: st) (hst : (st.map fun v => v.category).sum ≤ 8)
    (hfr : fr' + 1 ≤ fr) (hlo : 8 + (maxL + 11) + lo' ≤ lo) (d : decode cc pc = .ok (.invokespecial idx, 3)) (hc : Ct X.1.2.1 X.2.2.1 y (.code y bytes maxL none) fr' lo' (.ref b :: As) M (.inl none) M') (kk : wq X nL (pc + 3) lv st M') : wq X nL pc lv sk M := by
  intro H locs ls h1 h2 h3 h4 h5 T hT X9
  refine CRes.ret (a := ((.ref b :: As).map (re X.2.2.1)).toArray) (v := none) hT h2 h3 h4 h5 (xk_callI X9 C.1 C.2.2.2.1 hy1 (C.2.2.2.2.1 _ L.1) (C.2.2.2.2.1 _ V) (C.2.2.2.2.1 _ L.2.1) L.2.2.2.1 (Ct_back C hc L.2.1 L.2.2.1 hfr hlo) rfl (h3.1.trans C.2.2.1.symm) (argsL := As.map (re X.2.2.1)) (rest := st.map (re X.2.2.1)) (L.hl As hn _) ?_ ?_ (by rw [C.2.1]; exact d) (xk_pre C hRO hT h1 h2 h4 h5)) kk
  · show sk.map (re X.2.2.1) = _
    rw [hsk, List.map_append, List.map_reverse]; rfl
  · rw [sum_re]; show 2 * 0 + _ ≤ 8; omega
end QJ
