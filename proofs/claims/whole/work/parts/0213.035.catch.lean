/-! ===== a callee's throw, caught by its class's name; methods with a table ===== -/
section XC
/-- an entry that names the thrown thing's class, or one above: the search ends there -/
theorem xc_hit {Q : Handler → Pre} {E : CtlPost} {e : Env} {d : Bool} {acts : List Action} {S : State} {f : JFrame} {a : Addr} {x : ExceptionTableEntry} {t : List ExceptionTableEntry} {k : ClassId} {cell : Cell} (hx : covers x f.pc = true) (h0 : x.catchType ≠ 0)
    (hl : S.vm.ClassLinks e.platform f.method.cls x.catchType k) (hcell : S.heap[a]? = some cell) (hobj : ∀ z, cell.vm ≠ .statics z) (h1 : ∃ z, S.vm.classes[cell.cls]? = some z) (h2 : ∃ z, S.vm.classes[k]? = some z) (b : Bool) (hb : S.vm.assignable cell.cls k = b) :
    wp (findHandler.go f a (x :: t)) Q E e d acts S ↔ if b then Q (.found x.handlerPc) d acts (S.setVm (S.vm.noted f.method.cls x.catchType (.cls k))) else wp (findHandler.go f a t) Q E e d acts (S.setVm (S.vm.noted f.method.cls x.catchType (.cls k))) := by
  obtain ⟨r1, r2⟩ := (resolveClass_links e.toSetting hl).op (op := VmOp.resolveClass f.method.cls x.catchType) rfl
  have ha : S.vm.Alike (S.vm.noted f.method.cls x.catchType (.cls k)) := (Vm.Alike.refl S.vm).noted _ _ _
  obtain ⟨z1, hz1⟩ := h1
  obtain ⟨z2, hz2⟩ := h2
  obtain ⟨y1, hy1, -⟩ := ha.2.2 _ _ hz1
  obtain ⟨y2, hy2, -⟩ := ha.2.2 _ _ hz2
  have hb' : (S.vm.noted f.method.cls x.catchType (.cls k)).assignable cell.cls k = b := by rw [ha.assignable]; exact hb
  simp only [covers] at hx
  cases b
  · simp [findHandler.go, hx, h0, r1, r2, hcell, hobj, hy1, hy2, hb', VmOp.dirties, VmOp.acts]
  · simp [findHandler.go, hx, h0, r1, r2, hcell, hobj, hy1, hy2, hb', VmOp.dirties, VmOp.acts]
/-- what a row of the table does with a thing of class k -/
def xc_row (pl : Platform) (s₀ : State) (own k : ClassId) (pc : Nat) (b : Bool) (x : ExceptionTableEntry) : Prop := covers x pc = true ∧ x.catchType ≠ 0 ∧ ∃ c, s₀.vm.ClassLinks pl own x.catchType c ∧ s₀.vm.assignable k c = b
theorem xc_go {e : Env} {s₀ : State} {f : JFrame} {a : Addr} {cell : Cell} (hobj : ∀ z, cell.vm ≠ .statics z) (h1 : ∃ z, s₀.vm.classes[cell.cls]? = some z) (x : ExceptionTableEntry) (suf : List ExceptionTableEntry) (hx : xc_row e.platform s₀ f.method.cls cell.cls f.pc true x) :
    ∀ (pre : List ExceptionTableEntry) (S : State), s₀.WarmedH S.vm → S.heap[a]? = some cell → (∀ y ∈ pre, xc_row e.platform s₀ f.method.cls cell.cls f.pc false y) →
      ∃ vm', s₀.WarmedH vm' ∧ ∀ (Q : Handler → Pre) (E : CtlPost) (d : Bool) (acts : List Action), wp (findHandler.go f a (pre ++ x :: suf)) Q E e d acts S ↔ Q (.found x.handlerPc) d acts (S.setVm vm') := by
  obtain ⟨z0, hz0⟩ := h1
  intro pre
  induction pre with
  | nil =>
    intro S hW hc _
    obtain ⟨hcov, h0, k, hl, hb⟩ := hx
    obtain ⟨y0, hy0, -⟩ := hW.alike.2.2 _ _ hz0
    obtain ⟨dk, _, _, kt, hd, _, _, _, _, hkt, _, hop⟩ := hl.here
    obtain ⟨kt', hkt', -⟩ := hW.alike.2.2 _ _ hkt
    refine ⟨_, hW.noted hd hop (State.rightAt_cls hl), fun Q E d acts => ?_⟩
    rw [List.nil_append, xc_hit hcov h0 (hW.classLinks hl) hc hobj ⟨y0, hy0⟩ ⟨kt', hkt'⟩ true (by rw [hW.alike.assignable]; exact hb), if_pos rfl]
  | cons y ys ih =>
    intro S hW hc hpre
    obtain ⟨hcov, h0, k, hl, hb⟩ := hpre y List.mem_cons_self
    obtain ⟨y0, hy0, -⟩ := hW.alike.2.2 _ _ hz0
    obtain ⟨dk, _, _, kt, hd, _, _, _, _, hkt, _, hop⟩ := hl.here
    obtain ⟨kt', hkt', -⟩ := hW.alike.2.2 _ _ hkt
    obtain ⟨vm', hW', hq⟩ := ih (S.setVm (S.vm.noted f.method.cls y.catchType (.cls k))) (hW.noted hd hop (State.rightAt_cls hl)) hc (fun z hz => hpre z (List.mem_cons_of_mem _ hz))
    refine ⟨vm', hW', fun Q E d acts => ?_⟩
    rw [List.cons_append, xc_hit hcov h0 (hW.classLinks hl) hc hobj ⟨y0, hy0⟩ ⟨kt', hkt'⟩ false (by rw [hW.alike.assignable]; exact hb), if_neg (by decide)]
    exact hq Q E d acts
theorem xc_caught {p : Program} {l : Launch} {e : Env} {R : Room} {s : State} {m : MethodId} {args : Array Value} {below : List Frame} {meth : Method} {c : Code} {T : State} {locs : List Loc} {cells slots : Nat} (X : Stand p l e R s m args below meth c T locs cells slots) (a : Addr) {g : JFrame} (hg : g.method = m)
    {cell : Cell} (hcell : T.heap[a]? = some cell) (hobj : ∀ z, cell.vm ≠ .statics z) (h1 : ∃ z, s.vm.classes[cell.cls]? = some z) (pre : List ExceptionTableEntry) (x : ExceptionTableEntry) (suf : List ExceptionTableEntry) (hsp : c.exceptionTable.toList = pre ++ x :: suf)
    (hpre : ∀ y ∈ pre, xc_row e.platform s m.cls cell.cls g.pc false y) (hx : xc_row e.platform s m.cls cell.cls g.pc true x) :
    ∃ vm', Stand p l e R s m args below meth c (T.setVm vm') locs cells slots ∧ ∀ tg, Steps p.tables e below ((T.setVm vm').setTop { g with pc := x.handlerPc, stack := [.ref a] }) tg → Steps p.tables e below ((T.setTop g).pushFrame (.throwing a)) tg := by
  subst hg
  have hvm : ((T.setTop g).pushFrame (.throwing a)).vm = T.vm := Stand.throwing_vm T g a
  have hhp : ((T.setTop g).pushFrame (.throwing a)).heap = T.heap := Stand.throwing_heap T g a
  obtain ⟨vm', hW', hq⟩ := xc_go (e := e) (f := g) (a := a) hobj h1 x suf hx pre ((T.setTop g).pushFrame (.throwing a)) (by rw [hvm]; exact X.warmed) (by rw [hhp]; exact hcell) hpre
  refine ⟨vm', X.noted hW', fun tg hrest => ?_⟩
  have hfind : ∀ (Q : Handler → Pre) (E : CtlPost) (d : Bool) (acts : List Action), wp (findHandler g a) Q E e d acts ((T.setTop g).pushFrame (.throwing a)) ↔ Q (.found x.handlerPc) d acts (((T.setTop g).pushFrame (.throwing a)).setVm vm') := by
    intro Q E d acts
    rw [W.findHandler_eq (by rw [hvm]; exact X.method') X.code, hsp]
    exact hq Q E d acts
  have h := X.here
  obtain ⟨hgo, hw⟩ := h.throwing a
  refine Steps.head hgo hw ?_
  have hst : (stepThrowing e ((T.setTop g).pushFrame (.throwing a)) a (.java g :: T.frames.tail)).Is ((((T.setTop g).pushFrame (.throwing a)).setVm vm').setFrames (.java { g with pc := x.handlerPc, stack := [.ref a] } :: T.frames.tail)) [] := by
    simp only [stepThrowing, searchFrame, vmDo]
    generalize hr : Sem.go _ e false [] _ = res
    obtain ⟨as, rfl, ha⟩ := Sem.eq_ok_of hr (a := Handler.found x.handlerPc) (s' := ((T.setTop g).pushFrame (.throwing a)).setVm vm') (acts' := []) (by simp [hfind _ _ _ _])
    exact ⟨rfl, ha⟩
  rw [stepThread_throwing (frames_entered h.top _), hst.1]
  obtain ⟨g₀, hg0⟩ := Option.isSome_iff_exists.mp h.top
  obtain ⟨r, hr⟩ := State.topJava?_eq_some.mp hg0
  have hr' : (T.setVm vm').frames = .java g₀ :: r := hr
  rw [State.setTop_of_frames _ hr'] at hrest
  have e2 : ∀ (u : State) (F G : List Frame), ((u.setFrames F).setVm vm').setFrames G = (u.setVm vm').setFrames G := fun u F G => by
    have h1 : (u.setFrames F).setVm vm' = (u.setVm vm').setFrames F := rfl
    rw [h1, State.setFrames_setFrames]
  rw [hr, List.tail_cons, State.pushFrame, e2, State.setTop_of_frames _ hr, e2]
  exact hrest
end XC
section QC
variable {X : CX} {cc : ByteArray} {nL pc fr lo : Nat} {own : String} {lv : List (Nat × Value)} {st : List Value} {M M' : Mem}
/-- how a body with a table must end -/
def FINH (X : CX) (ret : Option FieldType) (r : Rs) (M' : Mem) (hh : List (Nat × Nat × Nat × Nat)) : Prop :=
  X.2.2.2.2 = vx_MQ X.2.1.2.1 (QcR X.2.2.1 X.2.2.2.1 r M') (XcR X.2.2.1 X.2.2.2.1 r M') X.2.1.1 X.1.2.2.2.2.1 (M'.1.length - X.2.2.2.1.1.length) (mS M' - mS X.2.2.2.1) (gA X.2.2.1) ∧ X.2.1.2.2.1.sig.returnType = ret ∧ X.2.1.2.2.2.exceptionTable.toList = tableOf hh ∧ RO X.2.2.1 X.1.2.2.2.2.1 X.1.2.2.2.2.1.heap
theorem Ct_ofH {l : Launch} {G : GG} {y : MethodName} {cc : ByteArray} {maxL fr lo : Nat} {ret : Option FieldType} {hh : List (Nat × Nat × Nat × Nat)} {as : List Value} {M : Mem} {r : Rs} {M' : Mem} (hy : plainName y.cls = true) (hlen : (lg_sl as).length ≤ maxL)
    (body : ∀ X : CX, X.1.2.1 = l → X.2.2.1 = G → X.2.2.2.1 = M → CK X cc maxL y.cls fr lo → FINH X ret r M' hh → wq X maxL 0 (lv_args 0 as) [] M) : Ct l G y (.codeWith y cc maxL ret hh) fr lo as M r M' := by
  refine vx_ofWH (cc := cc) (maxL := maxL) (ret := ret) (hh := hh) hy rfl ?_
  intro p e s m args below meth c s₁ B hml hP
  obtain ⟨rfl, hB0, hHC, hK, hRO, hl1, hl2⟩ := hP
  have hts0 := atoms_spec (ws := .codeWith y cc maxL ret hh :: gws) B.pre
  rw [lg_entry_eq]
  have hb := body ((p, l, e, (headSpec (.codeWith y cc maxL ret hh :: gws) { frames := fr, cells := CLM - M.1.length, slots := SLM - mS M, locals := lo }).room, s, m), ((as.map (re G)).toArray, below, meth, c), G, M, vx_MQ below (QcR G M r M') (XcR G M r M') (as.map (re G)).toArray s (M'.1.length - M.1.length) (mS M' - mS M) (gA G)) rfl rfl rfl
    ⟨B.exec, B.bytes, hml, findClass_of_methodNamed B.named, fun w hw => hts0 w (List.mem_cons_of_mem _ hw), hK, hB0, B.notSynchronized, rfl, rfl, rfl, rfl⟩ ⟨rfl, B.returns, vx_table (x := y) B (hts0 _ List.mem_cons_self), hRO⟩
  have h0 := hb s.heap [] _ hHC va_S.rf (by rw [lvm_args]; exact lv_entry (as.map (re G)) (n := maxL) (by rw [lg_sl_len]; exact hlen)) ⟨Nat.le_refl _, hl1⟩ ⟨Nat.le_refl _, hl2⟩
  simp only [Nat.sub_self] at h0
  exact h0
theorem q_iretH {v : Int32} {hh : List (Nat × Nat × Nat × Nat)} (C : CK X cc nL own fr lo) (F : FINH X (some .int) (.inl (some (.int v))) M hh) (d : decode cc pc = .ok (.ireturn, 1)) : wq X nL pc lv [.int v] M := by
  intro H locs ls h1 h2 h3 h4 h5
  obtain ⟨hQ, hr, -, -⟩ := F
  rw [hQ]
  exact vx_ret (W.iret (v := v) C.1 C.2.1 hr (fun t ht hW => ⟨⟨_, rfl, rfl, by rw [ht]; exact h1, h4, h5⟩, S_F h2 t ht⟩) h2.2.2 d C.2.2.2.2.2.2.2.1)
/-- what a row of the table does with the exception e0, by the words -/
def xRow (own : String) (pc e0 : Nat) (b : Bool) (x : ExceptionTableEntry) : Prop := covers x pc = true ∧ x.catchType ≠ 0 ∧ ∃ n : Nat, Cond.classLink own x.catchType (exN n) ∈ gws ∧ (if b then Cond.castable (exN e0) (exN n) ∈ xws else exN e0 = "java/lang/IllegalArgumentException" ∧ exN n = "java/util/NoSuchElementException")
theorem xRow_row {e0 : Nat} {b : Bool} {x : ExceptionTableEntry} {k : ClassId} {e : Env} (hpl : e.platform.magicAccessors = ({} : Platform).magicAccessors) (C : CK X cc nL own fr lo) (hRO : RO X.2.2.1 X.1.2.2.2.2.1 X.1.2.2.2.2.1.heap) (hk : X.1.2.2.2.2.1.vm.findClass (exN e0) = some k) (h : xRow own pc e0 b x) : xc_row e.platform X.1.2.2.2.2.1 X.1.2.2.2.2.2.cls k pc b x := by
  obtain ⟨h1, h2, n, h3, h4⟩ := h
  obtain ⟨c, hc, hl⟩ := Cond.classLink_spec C.2.2.2.1 (C.2.2.2.2.1 _ h3) e.platform hpl
  refine ⟨h1, h2, c, hl, ?_⟩
  cases b with
  | true =>
    rw [if_pos rfl] at h4
    obtain ⟨c3, c4, g1, g2, g3⟩ := Cond.castable_spec (hRO.2.2.2.2.2.1 _ h4)
    cases Option.some.inj (g1.symm.trans hk)
    cases Option.some.inj (g2.symm.trans hc)
    exact g3
  | false =>
    rw [if_neg (by decide)] at h4
    obtain ⟨c3, c4, g1, g2, g3⟩ := hRO.2.2.2.2.2.2.2.1
    rw [h4.1] at hk
    rw [h4.2] at hc
    cases Option.some.inj (g1.symm.trans hk)
    cases Option.some.inj (g2.symm.trans hc)
    exact g3
/-- a method that throws, and the handler: its first instruction lays the thing away -/
theorem q_catch {ci b N e0 idx maxL n fr' lo' j len : Nat} {y : MethodName} {bytes : ByteArray} {ret : Option FieldType} {T : u_T} {lv' : List (Nat × Value)} {sk : List Value} (As : List Value) (pre : List ExceptionTableEntry) (x : ExceptionTableEntry) (suf : List ExceptionTableEntry) (C : CK X cc nL own fr lo) (hRO : RO X.2.2.1 X.1.2.2.2.2.1 X.1.2.2.2.2.1.heap) (L : LK own idx y bytes maxL ret n) (V : VK y) (hb : M.1[b]? = some (ci, 0)) (hcl : vwCl[ci]? = some (y.cls, T, N)) (hn : As.length = n) (hsk : sk = As.reverse ++ .ref b :: st) (hst : (st.map fun v => v.category).sum ≤ 8)
    (hfr : fr' + 1 ≤ fr) (hlo : 8 + (maxL + 11) + lo' ≤ lo) (d : decode cc pc = .ok (.invokevirtual idx, 3)) (hc : Ct X.1.2.1 X.2.2.1 y (.code y bytes maxL ret) fr' lo' (.ref b :: As) M (.inr e0) M')
    (hsp : X.2.1.2.2.2.exceptionTable.toList = pre ++ x :: suf) (hpre : ∀ z ∈ pre, xRow own pc e0 false z) (hx : xRow own pc e0 true x)
    (dh : (decode cc x.handlerPc = .ok (.astore j, 2) ∧ len = 2) ∨ (∃ kf : Fin 4, decode cc x.handlerPc = .ok (.astore_n kf, 1) ∧ (kf : Nat) = j ∧ len = 1)) (hj : j < nL) (hlv : lv.filter (fun q => !(q.1 == j) && !(q.1 + 1 == j && q.2.category == 2)) = lv')
    (kk : wq X nL (x.handlerPc + len) lv' [] M') : wq X nL pc lv sk M := by
  intro H locs ls h1 h2 h3 h4 h5 T9 hT X9
  obtain ⟨cell, g1, g2, g3⟩ := recvO C h1 hb hcl
  have hr := vx_callV X9 C.1 (C := y.cls) C.2.2.2.1 (C.2.2.2.2.1 _ L.1) (C.2.2.2.2.1 _ V.1) (C.2.2.2.2.1 _ V.2) (C.2.2.2.2.1 _ L.2.1) L.2.2.2.1 (Ct_back C hc L.2.1 L.2.2.1 hfr hlo) (by rw [hT]; exact g1) g2 g3 (g := F0 X.1.2.2.2.2.2 pc ls (sk.map (re X.2.2.1))) rfl (h3.1.trans C.2.2.1.symm) (argsL := As.map (re X.2.2.1)) (rest := st.map (re X.2.2.1)) (L.hl As hn _) (by
    show sk.map (re X.2.2.1) = _
    rw [hsk, List.map_append, List.map_reverse]; rfl) (by rw [sum_re]; show 2 * 0 + _ ≤ 8; omega) (by rw [C.2.1]; exact d) (xk_pre C hRO hT h1 h2 h4 h5)
  rcases hr with ⟨v', vm₁, B, hW₁, X', ⟨g', mk, t, L, e1, e2, ⟨⟨v1, hv1, -⟩, -⟩, -⟩, go⟩ | ⟨q, vm₁, ⟨U', l2, c2, s2⟩, hW₁, X', ⟨g', mk, t, L9, E, ce, e1, e2, ⟨⟨e9, he, hE, hC, hl1, hl2⟩, hF⟩, hce, hcv, hcl9, q1, hL, q2, q3⟩, go⟩
  · cases hv1
  · cases he
    dsimp only [Pt.U, Pt.locs, Pt.cells, Pt.slots] at X' e1 e2 q1 q2 q3 go hcl9
    subst q1; subst q2; subst q3
    have hS := S_call h2 (st₀ := (T9.setVm vm₁).calling g' mk ((Value.ref (X.2.2.1.2.2.1 + b)) :: As.map (re X.2.2.1)).toArray) hT hF hL
    have hcls := vx_cls hW₁ hcl9
    rw [hE] at hcls
    have hpl : X.1.2.2.1.platform.magicAccessors = ({} : Platform).magicAccessors := by rw [X9.admits.platform]
    obtain ⟨vm2, X2, go2⟩ := xc_caught X' q (g := F0 X.1.2.2.2.2.2 pc ls (st.map (re X.2.2.1))) rfl (cell := ce) (by rw [e1]; exact hce) (fun z hz => by rw [hcv] at hz; cases hz) (by obtain ⟨z9, hz9, -⟩ := Vm.findClass_spec hcls; exact ⟨z9, hz9⟩) pre x suf hsp (fun z hz => xRow_row hpl C hRO hcls (hpre z hz)) (xRow_row hpl C hRO hcls hx)
    rw [← e1] at hS hC
    have key : W X.1.1 X.1.2.1 X.1.2.2.1 X.1.2.2.2.1 X.1.2.2.2.2.1 X.1.2.2.2.2.2 X.2.1.1 X.2.1.2.1 X.2.1.2.2.1 X.2.1.2.2.2 U'.heap (locs ++ L9) (M.1.length - X.2.2.2.1.1.length + (M'.1.length - M.1.length)) (mS M - mS X.2.2.2.1 + (mS M' - mS M)) X.2.2.2.2 (F0 X.1.2.2.2.2.2 x.handlerPc ls [.ref q]) := by
      have hfl : lv_pick ((j, Value.ref q) :: lvm X.2.2.1 lv') ((List.range lv'.length).map (· + 1)) = lvm X.2.2.1 lv' := by
        unfold lv_pick
        rw [List.filterMap_map]
        have : ((fun k => ((j, Value.ref q) :: lvm X.2.2.1 lv')[k]?) ∘ (· + 1)) = fun k => (lvm X.2.2.1 lv')[k]? := by funext k; simp
        rw [this]
        have hlen : lv'.length = (lvm X.2.2.1 lv').length := by simp [lvm]
        rw [hlen]
        apply List.ext_getElem?
        intro i
        generalize lvm X.2.2.1 lv' = zs
        induction zs generalizing i with
        | nil => simp
        | cons z zs ih =>
          rw [List.length_cons, List.range_succ_eq_map, List.filterMap_cons]
          simp only [List.getElem?_cons_zero, List.filterMap_map]
          cases i with
          | zero => simp
          | succ i =>
            simp only [List.getElem?_cons_succ]
            have : ((fun k => (z :: zs)[k]?) ∘ Nat.succ) = fun k => zs[k]? := by funext k; simp
            rw [this]
            exact ih i
      have cont : ∀ ls' : Array Slot, lv_has ls' nL ((j, Value.ref q) :: lvm X.2.2.1 lv') → W X.1.1 X.1.2.1 X.1.2.2.1 X.1.2.2.2.1 X.1.2.2.2.2.1 X.1.2.2.2.2.2 X.2.1.1 X.2.1.2.1 X.2.1.2.2.1 X.2.1.2.2.2 U'.heap (locs ++ L9) (M.1.length - X.2.2.2.1.1.length + (M'.1.length - M.1.length)) (mS M - mS X.2.2.2.1 + (mS M' - mS M)) X.2.2.2.2 (F0 X.1.2.2.2.2.2 (x.handlerPc + len) ls' []) := by
        intro ls' h3'
        have hW := kk U'.heap (locs ++ L9) ls' hC hS (lv_sub h3' _ hfl) ⟨Nat.le_trans h4.1 hl1.1, hl1.2⟩ ⟨Nat.le_trans h5.1 hl2.1, hl2.2⟩
        rw [show M'.1.length - X.2.2.2.1.1.length = M.1.length - X.2.2.2.1.1.length + (M'.1.length - M.1.length) by omega, show mS M' - mS X.2.2.2.1 = mS M - mS X.2.2.2.1 + (mS M' - mS M) by omega] at hW
        exact hW
      have hlv2 : (j, Value.ref q) :: (lvm X.2.2.1 lv).filter (fun q => !(q.1 == j) && !(q.1 + 1 == j && q.2.category == 2)) = (j, Value.ref q) :: lvm X.2.2.1 lv' := by
        rw [lvm_flt lv (fun a b => !(a == j) && !(a + 1 == j && b == 2)), hlv]
      rcases dh with ⟨dh, rfl⟩ | ⟨kf, dh, hkf, rfl⟩
      · exact lv_astore C.1 C.2.1 dh h3 hj hlv2 cont
      · exact lv_astore_n C.1 C.2.1 dh hkf h3 hj hlv2 cont
    obtain ⟨t2, a1, b1⟩ := key (U'.setVm vm2) rfl X2
    exact ⟨t2, go.trans (go2 t2 a1), b1⟩
end QC
section QH2
variable {X : CX} {cc : ByteArray} {nL pc fr lo : Nat} {own : String} {lv : List (Nat × Value)} {st sk : List Value} {M M' : Mem} {idx maxL n fr' lo' : Nat} {y : MethodName} {bytes : ByteArray} {ret ret' : Option FieldType} {hh : List (Nat × Nat × Nat × Nat)}
def LKH (own : String) (idx : Nat) (y : MethodName) (bytes : ByteArray) (maxL : Nat) (ret : Option FieldType) (hh : List (Nat × Nat × Nat × Nat)) (n : Nat) : Prop :=
  Cond.methodLink own idx y ∈ gws ∧ Cond.codeWith y bytes maxL ret hh ∈ gws ∧ Cond.initialized y.cls ∈ gws ∧ (y.cls ≠ "java/lang/invoke/MethodHandle" ∧ y.cls ≠ "java/lang/invoke/VarHandle") ∧ ∀ sig, parseMethodDescriptor y.desc = some sig → n = sig.parameters.length
theorem Ct_backH {as : List Value} {r : Rs} (C : CK X cc nL own fr lo) (hc : Ct X.1.2.1 X.2.2.1 y (.codeWith y bytes maxL ret hh) fr' lo' as M r M') (w1 : Cond.codeWith y bytes maxL ret hh ∈ gws) (w2 : Cond.initialized y.cls ∈ gws) (hfr : fr' + 1 ≤ fr) (hlo : 8 + (maxL + 11) + lo' ≤ lo) :
    vx_Back X.1.2.1 X.1.2.2.2.1 X.1.1 X.1.2.2.1 X.2.1.2.1 X.1.2.2.2.2.1 X.2.1.1 y 3 8 (xk_Pre X.1.2.2.2.1 { frames := fr', cells := CLM - M.1.length, slots := SLM - mS M, locals := lo' } (PcR X.2.2.1 as M)) (PostOf (QcR X.2.2.1 M r M') (M'.1.length - M.1.length) (mS M' - mS M) (gA X.2.2.1)) (vx_Post (XcR X.2.2.1 M r M') (M'.1.length - M.1.length) (mS M' - mS M) (gA X.2.2.1)) := by
  obtain ⟨hx, hb, hml, hown, hts, hK, hB, hlk, hRc, hRs, hRf, hRl⟩ := C
  have hg : ∀ w ∈ gws, ∀ (a' : Array Value) (U : State), X.1.2.2.2.2.1.WarmedH U.vm → w.before a' U = true := fun w hw a' U hW => word_at hW (good_of_word (List.mem_filter.mp hw).2) (hts w hw)
  refine xk_backW (bytes := bytes) (maxL := maxL) (ret := ret) (hh := hh) hc (PcR_blind _ _ _) ?_ ?_ ?_ List.mem_cons_self (hg _ w2)
  · show fr' + 1 ≤ _; rw [hRf]; exact hfr
  · show 8 + (maxL + 11) + lo' ≤ _; rw [hRl]; exact hlo
  · intro w hw
    rcases List.mem_cons.mp hw with h | h
    · rw [h]; exact hg _ w1
    · exact hg w h
theorem q_callSH {v : Option Value} (As : List Value) (C : CK X cc nL own fr lo) (hRO : RO X.2.2.1 X.1.2.2.2.2.1 X.1.2.2.2.2.1.heap) (L : LKH own idx y bytes maxL ret hh n) (V : Cond.static y ∈ gws) (hn : As.length = n) (hsk : sk = As.reverse ++ st) (hst : (st.map fun v => v.category).sum ≤ 8)
    (hfr : fr' + 1 ≤ fr) (hlo : 8 + (maxL + 11) + lo' ≤ lo) (d : decode cc pc = .ok (.invokestatic idx, 3)) (hc : Ct X.1.2.1 X.2.2.1 y (.codeWith y bytes maxL ret hh) fr' lo' As M (.inl v) M') (kk : wq X nL (pc + 3) lv (v.toList ++ st) M') : wq X nL pc lv sk M := by
  intro H locs ls h1 h2 h3 h4 h5 T hT X9
  refine CRes.ret (a := (As.map (re X.2.2.1)).toArray) (v := v) hT h2 h3 h4 h5 (vx_callSX X9 C.1 C.2.2.2.1 (C.2.2.2.2.1 _ L.1) (C.2.2.2.2.1 _ V) (C.2.2.2.2.1 _ L.2.2.1) (C.2.2.2.2.1 _ L.2.1) L.2.2.2.1 (Ct_backH C hc L.2.1 L.2.2.1 hfr hlo) rfl (h3.1.trans C.2.2.1.symm) (argsL := As.map (re X.2.2.1)) (rest := st.map (re X.2.2.1)) (fun sig h => by rw [List.length_map, hn]; exact L.2.2.2.2 sig h) ?_ ?_ (by rw [C.2.1]; exact d) (xk_pre C hRO hT h1 h2 h4 h5)) kk
  · show sk.map (re X.2.2.1) = _
    rw [hsk, List.map_append, List.map_reverse]
  · rw [sum_re]; show 2 * 0 + _ ≤ 8; omega
end QH2
