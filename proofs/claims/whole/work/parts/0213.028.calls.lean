/-! ===== what is read and never written; contracts; calls ===== -/
theorem xk_ofW {l : Launch} {y : MethodName} {ws ws' : List Cond} {rm : Room} {Pc : Array Value → State → Prop} {Qc : Array Value → State → Outcome → State → Prop} {XC : String → State → State → Prop} {mc ms : Nat} {free : Addr → Prop} {cc : ByteArray} {maxL : Nat} {ret : Option FieldType}
    (hy : plainFor y = true) (hw : ws = Cond.code y cc maxL ret :: ws')
    (body : ∀ p e s m args below meth c s₁, BodyLoose p l y (headSpec ws rm) cc maxL ret e s m args below meth c s₁ → c.maxLocals = maxL → (∀ x ∈ c.exceptionTable.toList, False) → Pc args s →
      W p l e (headSpec ws rm).room s m args below meth c s.heap [] 0 0 (vx_MQ below Qc XC args s mc ms free) (entryFrame m args maxL)) : vx_Met l y ws rm Pc Qc XC mc ms free := by
  refine MetFree.of_bodySF (code := cc) (maxLocals := maxL) (ret := ret) hy ?_ ?_
  · intro args s m h hn
    obtain ⟨meth, c, h1, h2, h3, h4, h5, h6, -, -⟩ := Cond.code_spec hn (atoms_spec (ws := ws) h _ (by rw [hw]; exact List.mem_cons_self))
    exact ⟨meth, c, h1, h2, h3, h4, h5, h6⟩
  · intro p e s m args below meth c s₁ B hml hP _
    have hh0 : s₁.heap = s.heap := by rw [B.state]; rfl
    have ht : ∀ x ∈ c.exceptionTable.toList, False := by
      obtain ⟨meth9, c9, h1, h2, -, -, -, -, h7, -⟩ := Cond.code_spec B.named (atoms_spec (ws := ws) B.pre _ (by rw [hw]; exact List.mem_cons_self))
      cases Option.some.inj (h1.symm.trans B.method)
      cases Option.some.inj (h2.symm.trans (Stand.of_body B).code)
      intro x hx
      rw [Array.isEmpty_iff.mp h7] at hx
      cases hx
    obtain ⟨t, a1, o, b1, b2, b3⟩ := body p e s m args below meth c s₁ B hml ht hP s₁ hh0 (Stand.of_body B)
    exact ⟨t, o, a1, b1, b2, b3⟩
def strT : List (String × Nat × String) := [("HornHouses", 99, "the tape has not so many bytes"), ("HornHouses$Reader", 94, "house"), ("HornHouses$Reader", 103, "person"), ("HornHouses$Reader", 148, "in"), ("HornHouses$Reader", 108, "damp"), ("HornHouses$Reader", 113, "eases"), ("HornHouses$Reader", 206, "heel"), ("HornHouses$Reader", 207, "size"), ("HornHouses$Reader", 208, "give"), ("HornHouses$Reader", 209, "worn"), ("HornHouses$Reader", 211, "day"), ("HornHouses$Reader", 213, "tight"), ("HornHouses$Reader", 201, "not"), ("HornHouses$Reader", 197, "or"), ("HornHouses$Reader", 199, "and"), ("HornHouses$Reader", 119, "bursts"), ("HornHouses", 156, "no such count"), ("HornHouses", 410, "no such house"), ("HornHouses", 210, "no such thing of a house"), ("HornHouses", 412, "no such person"), ("HornHouses", 229, "no such thing of a person"), ("HornHouses", 414, "no such question"), ("HornHouses", 416, "not so many days"), ("HornHouses", 306, "no such place"), ("HornHouses", 354, "no such days or tenths"), ("HornHouses", 362, "both are one"), ("HornHouses", 399, "no such size")]
def isXw : Cond → Bool
  | .castable .. => true
  | .declares .. => true
  | _ => false
def xws : List Cond := tables_1.filter isXw
def xw (U : State) : Prop := ∀ w ∈ xws, w.before #[] U = true
theorem xw.moved {s U : State} (hvm : s.vm.Alike U.vm) (h : xw s) : xw U := by
  intro w hw
  have hk := (List.mem_filter.mp hw).2
  have h1 := h w hw
  cases w with
  | castable C T =>
    have h2 : (Cond.castable C T).before #[] (s.setVm U.vm) = true := by rw [Cond.castable_setVm hvm]; exact h1
    exact va_tabs rfl (rfl : (s.setVm U.vm).vm = U.vm) h2
  | declares x =>
    have h2 : (Cond.declares x).before #[] (s.setVm U.vm) = true := by rw [Cond.declares_setVm hvm]; exact h1
    exact va_tabs rfl (rfl : (s.setVm U.vm).vm = U.vm) h2
  | _ => cases hk
/-- the String constants -/
def roS (G : GG) (U : State) (H : Heap) : Prop := ∀ i : Nat, i < nStr → va_O "java/lang/String" (G.2.2.2.1 i) (gA G) U H ∧ va_OF "java/lang/String" "coder" "B" (.int 0) (G.2.2.2.1 i) (gA G) U H ∧ va_OF "java/lang/String" "value" "[B" (.ref (G.2.2.2.1 (1000 + i))) (G.2.2.2.1 i) (gA G) U H ∧ va_T .byte (G.2.2.2.1 (1000 + i)) (strB.getD i []).length (fun j => .int ((strB.getD i []).getD j 0)) (gA G) U H
def roR (G : GG) (U : State) : Prop := ∀ (i : Nat) (q : String × Nat × String), strT[i]? = some q → vk_R q.1 q.2.1 q.2.2 (G.2.2.2.1 i) U
/-- the formatter that an index check is handed -/
def roF (G : GG) (U : State) (H : Heap) : Prop := va_Z "jdk/internal/util/Preconditions" "SIOOBE_FORMATTER" "Ljava/util/function/BiFunction;" .null (gA G) U H ∨ va_Z "jdk/internal/util/Preconditions" "SIOOBE_FORMATTER" "Ljava/util/function/BiFunction;" (.ref (G.2.2.2.1 28)) (gA G) U H
def RO (G : GG) (U : State) (H : Heap) : Prop := roS G U H ∧ roR G U ∧ va_Z "java/lang/String" "COMPACT_STRINGS" "Z" (.int 1) (gA G) U H ∧ vx_Zq Bundle.tN "UNASSIGNED_STACK" Bundle.steD (gA G) U H ∧ vx_Zq Bundle.tN "SUPPRESSED_SENTINEL" Bundle.listD (gA G) U H ∧ xw U ∧ va_AO "HornHouses$State" U ∧ va_Nc "java/lang/IllegalArgumentException" "java/util/NoSuchElementException" U ∧ roF G U H
theorem RO.kept {G : GG} {U : State} {H H1 : Heap} (h : RO G U H) (hq : ∀ a : Nat, a < H.size → ¬ gA G a → H1[a]? = H[a]?) : RO G U H1 :=
  ⟨fun i hi => ⟨(h.1 i hi).1.kept hq, (h.1 i hi).2.1.kept hq, (h.1 i hi).2.2.1.kept hq, (h.1 i hi).2.2.2.kept hq⟩, h.2.1, va_Z.kept h.2.2.1 hq, h.2.2.2.1.kept hq, h.2.2.2.2.1.kept hq, h.2.2.2.2.2.1, h.2.2.2.2.2.2.1, h.2.2.2.2.2.2.2.1, h.2.2.2.2.2.2.2.2.imp (fun z => va_Z.kept z hq) (fun z => va_Z.kept z hq)⟩
theorem RO.warm {G : GG} {s U : State} {H : Heap} (hW : s.WarmedH U.vm) (h : RO G s H) : RO G U H :=
  ⟨fun i hi => ⟨va_O.moved hW.alike (h.1 i hi).1, va_OF.moved hW.alike (h.1 i hi).2.1, va_OF.moved hW.alike (h.1 i hi).2.2.1, va_T.moved hW.alike (h.1 i hi).2.2.2⟩, fun i q hq => vk_R.warm hW (h.2.1 i q hq), va_Z.moved hW.alike h.2.2.1, vx_Zq.moved hW.alike h.2.2.2.1, vx_Zq.moved hW.alike h.2.2.2.2.1, h.2.2.2.2.2.1.moved hW.alike, va_AO.moved hW.alike h.2.2.2.2.2.2.1, va_Nc.moved hW.alike h.2.2.2.2.2.2.2.1, h.2.2.2.2.2.2.2.2.imp (fun z => va_Z.moved hW.alike z) (fun z => va_Z.moved hW.alike z)⟩
def exN (e : Nat) : String := if e = 0 then "java/lang/IllegalArgumentException" else "java/util/NoSuchElementException"
abbrev Rs : Type := Option Value ⊕ Nat
def QcR (G : GG) (M : Mem) (r : Rs) (M' : Mem) : Array Value → State → Outcome → State → Prop := fun _ st o t => (∃ v : Option Value, r = .inl v ∧ o = .returned (v.map (re G)) ∧ HC G M' t.heap ∧ (M.1.length ≤ M'.1.length ∧ M'.1.length ≤ CLM) ∧ (mS M ≤ mS M' ∧ mS M' ≤ SLM)) ∧ va_F (gA G) st t
def XcR (G : GG) (M : Mem) (r : Rs) (M' : Mem) : String → State → State → Prop := fun E st t => (∃ e : Nat, r = .inr e ∧ E = exN e ∧ HC G M' t.heap ∧ (M.1.length ≤ M'.1.length ∧ M'.1.length ≤ CLM) ∧ (mS M ≤ mS M' ∧ mS M' ≤ SLM)) ∧ va_F (gA G) st t
def PcR (G : GG) (as : List Value) (M : Mem) : Array Value → State → Prop := va_Pc (as.map (re G)) (fun V => G.2.2.1 ≤ V.heap.size ∧ HC G M V.heap ∧ va_K G.1 vwCl (gty G) V ∧ RO G V V.heap ∧ M.1.length ≤ CLM ∧ mS M ≤ SLM)
/-- the method y, called with as over the memory M, comes to r with the memory M' -/
def Ct (l : Launch) (G : GG) (y : MethodName) (cd : Cond) (fr lo : Nat) (as : List Value) (M : Mem) (r : Rs) (M' : Mem) : Prop :=
  vx_Met l y (cd :: gws) { frames := fr, cells := CLM - M.1.length, slots := SLM - mS M, locals := lo } (PcR G as M) (QcR G M r M') (XcR G M r M') (M'.1.length - M.1.length) (mS M' - mS M) (gA G)
/-- how the body that is walked must end -/
def FIN (X : CX) (ret : Option FieldType) (r : Rs) (M' : Mem) : Prop :=
  X.2.2.2.2 = vx_MQ X.2.1.2.1 (QcR X.2.2.1 X.2.2.2.1 r M') (XcR X.2.2.1 X.2.2.2.1 r M') X.2.1.1 X.1.2.2.2.2.1 (M'.1.length - X.2.2.2.1.1.length) (mS M' - mS X.2.2.2.1) (gA X.2.2.1) ∧ X.2.1.2.2.1.sig.returnType = ret ∧ (∀ x ∈ X.2.1.2.2.2.exceptionTable.toList, False) ∧ RO X.2.2.1 X.1.2.2.2.2.1 X.1.2.2.2.2.1.heap
theorem lvm_args (G : GG) : ∀ (as : List Value) (i : Nat), lvm G (lv_args i as) = lv_args i (as.map (re G)) := by
  intro as
  induction as with
  | nil => intro i; rfl
  | cons a t ih =>
    intro i
    show (i, re G a) :: lvm G (lv_args _ t) = (i, re G a) :: lv_args _ _
    rw [ih, re_cat]
theorem lg_sl_len (G : GG) (as : List Value) : (lg_sl (as.map (re G))).length = (lg_sl as).length := by
  induction as with
  | nil => rfl
  | cons a t ih =>
    unfold lg_sl at ih ⊢
    simp only [List.map_cons, List.flatMap_cons, List.length_append, re_cat, ih]
    split <;> rfl
theorem S_F {G : GG} {s : State} {H : Heap} {locs : List Loc} (h2 : va_S (gA G) s.heap H locs) : ∀ t : State, t.heap = H → va_F (gA G) s t := fun t ht => ⟨by rw [ht]; exact h2.1, fun q h1 h3 => by rw [ht]; exact h2.2.1 q h1 h3⟩
theorem Ct_of {l : Launch} {G : GG} {y : MethodName} {cc : ByteArray} {maxL fr lo : Nat} {ret : Option FieldType} {as : List Value} {M : Mem} {r : Rs} {M' : Mem} (hy : plainFor y = true) (hlen : (lg_sl as).length ≤ maxL)
    (body : ∀ X : CX, X.1.2.1 = l → X.2.2.1 = G → X.2.2.2.1 = M → CK X cc maxL y.cls fr lo → FIN X ret r M' → X.2.1.2.2.1.name = y.name → wq X maxL 0 (lv_args 0 as) [] M) : Ct l G y (.code y cc maxL ret) fr lo as M r M' := by
  refine xk_ofW (cc := cc) (maxL := maxL) (ret := ret) hy rfl ?_
  intro p e s m args below meth c s₁ B hml ht hP
  obtain ⟨rfl, hB0, hHC, hK, hRO, hl1, hl2⟩ := hP
  have hts0 := atoms_spec (ws := .code y cc maxL ret :: gws) B.pre
  rw [lg_entry_eq]
  have hb := body ((p, l, e, (headSpec (.code y cc maxL ret :: gws) { frames := fr, cells := CLM - M.1.length, slots := SLM - mS M, locals := lo }).room, s, m), ((as.map (re G)).toArray, below, meth, c), G, M, vx_MQ below (QcR G M r M') (XcR G M r M') (as.map (re G)).toArray s (M'.1.length - M.1.length) (mS M' - mS M) (gA G)) rfl rfl rfl
    ⟨B.exec, B.bytes, hml, findClass_of_methodNamed B.named, fun w hw => hts0 w (List.mem_cons_of_mem _ hw), hK, hB0, B.notSynchronized, rfl, rfl, rfl, rfl⟩ ⟨rfl, B.returns, ht, hRO⟩ (name_of_methodNamed B.named B.method).1
  have h0 := hb s.heap [] _ hHC va_S.rf (by rw [lvm_args]; exact lv_entry (as.map (re G)) (n := maxL) (by rw [lg_sl_len]; exact hlen)) ⟨Nat.le_refl _, hl1⟩ ⟨Nat.le_refl _, hl2⟩
  simp only [Nat.sub_self] at h0
  exact h0
section QE
variable {X : CX} {cc : ByteArray} {nL pc fr lo : Nat} {own : String} {lv : List (Nat × Value)} {st : List Value} {M M' : Mem}
theorem q_iret {v : Int32} (C : CK X cc nL own fr lo) (F : FIN X (some .int) (.inl (some (.int v))) M) (d : decode cc pc = .ok (.ireturn, 1)) : wq X nL pc lv [.int v] M := by
  intro H locs ls h1 h2 h3 h4 h5
  obtain ⟨hQ, hr, -, -⟩ := F
  rw [hQ]
  exact vx_ret (W.iret (v := v) C.1 C.2.1 hr (fun t ht hW => ⟨⟨_, rfl, rfl, by rw [ht]; exact h1, h4, h5⟩, S_F h2 t ht⟩) h2.2.2 d C.2.2.2.2.2.2.2.1)
theorem q_lret {v : Int64} (C : CK X cc nL own fr lo) (F : FIN X (some .long) (.inl (some (.long v))) M) (d : decode cc pc = .ok (.lreturn, 1)) : wq X nL pc lv [.long v] M := by
  intro H locs ls h1 h2 h3 h4 h5
  obtain ⟨hQ, hr, -, -⟩ := F
  rw [hQ]
  exact vx_ret (W.lret (v := v) C.1 C.2.1 hr (fun t ht hW => ⟨⟨_, rfl, rfl, by rw [ht]; exact h1, h4, h5⟩, S_F h2 t ht⟩) h2.2.2 d C.2.2.2.2.2.2.2.1)
theorem q_vret (C : CK X cc nL own fr lo) (F : FIN X none (.inl none) M) (d : decode cc pc = .ok (.return_, 1)) : wq X nL pc lv [] M := by
  intro H locs ls h1 h2 h3 h4 h5
  obtain ⟨hQ, hr, -, -⟩ := F
  rw [hQ]
  exact vx_ret (W.vret C.1 C.2.1 hr (fun t ht hW => ⟨⟨_, rfl, rfl, by rw [ht]; exact h1, h4, h5⟩, S_F h2 t ht⟩) h2.2.2 d C.2.2.2.2.2.2.2.1)
theorem q_aret {v : Nat} {rt : FieldType} (hrt : (∃ n, rt = .object n) ∨ ∃ t, rt = .array t) (C : CK X cc nL own fr lo) (F : FIN X (some rt) (.inl (some (.ref v))) M) (d : decode cc pc = .ok (.areturn, 1)) : wq X nL pc lv [.ref v] M := by
  intro H locs ls h1 h2 h3 h4 h5
  obtain ⟨hQ, hr, -, -⟩ := F
  rw [hQ]
  exact vx_ret (W.aret C.1 C.2.1 hr hrt (Or.inr ⟨_, rfl⟩) (fun t ht hW => ⟨⟨_, rfl, rfl, by rw [ht]; exact h1, h4, h5⟩, S_F h2 t ht⟩) h2.2.2 d C.2.2.2.2.2.2.2.1)
/-- a return that narrows -/
theorem W_nret {p : Program} {l : Launch} {e : Env} {R : Room} {s : State} {m : MethodId} {args : Array Value} {below : List Frame} {meth : Method} {c : Code} {H : Heap} {locs : List Loc} {cells slots : Nat} {cc : ByteArray} {Qc : Array Value → State → Outcome → State → Prop} {free : Addr → Prop} {v w : Int32} {ty : FieldType} (hexec : p.tables.exec = Jvm.exec) (hb : c.code = cc) (hr : meth.sig.returnType = some ty) (hn : narrow ty (.int v) = .int w)
    (hq : ∀ t : State, t.heap = H → s.WarmedH t.vm → Qc args s (.returned (some (.int w))) t) (hf : ∀ q ∈ locs, free q.base)
    {pc : Nat} {ls : Array Slot} (hdg : decode cc pc = .ok (.ireturn, 1)) (hlocks : meth.locks = false) : W p l e R s m args below meth c H locs cells slots (MQ below Qc args s cells slots free) (F0 m pc ls [.int v]) := by
  intro T hT X
  obtain ⟨fs, hret, hrun, hended, hW, hframe⟩ := X.leave (v := some (.int w)) (fun h => by rw [hr] at h; cases h)
  have hmeth' : T.vm.method? m = some meth := X.method'
  refine ⟨T.setFrames fs, ?_, .returned (some (.int w)), hrun, hended, hq _ hT hW, locs, ⟨⟨_, rfl⟩, hW, hframe⟩, hf⟩
  jvm_step X.here [X.here.top, hexec, hb, hdg, hmeth', hr, hn]
  (try refine ⟨rfl, ?_⟩); (try refine ⟨rfl, ?_⟩)
  first | (intro acts; rw [hret _ acts rfl rfl rfl]) | rw [hret _ _ rfl rfl rfl]
  exact Steps.refl _
theorem q_zret {v : Int32} (C : CK X cc nL own fr lo) (F : FIN X (some .boolean) (.inl (some (.int (nz v)))) M) (d : decode cc pc = .ok (.ireturn, 1)) : wq X nL pc lv [.int v] M := by
  intro H locs ls h1 h2 h3 h4 h5
  obtain ⟨hQ, hr, -, -⟩ := F
  rw [hQ]
  exact vx_ret (W_nret (v := v) (w := nz v) C.1 C.2.1 hr rfl (fun t ht hW => ⟨⟨_, rfl, rfl, by rw [ht]; exact h1, h4, h5⟩, S_F h2 t ht⟩) h2.2.2 d C.2.2.2.2.2.2.2.1)
theorem q_objInit {k idx : Nat} (C : CK X cc nL own fr lo) (w1 : Cond.methodLink own idx Lib.objectInit ∈ gws) (w2 : Cond.instanceMethod Lib.objectInit ∈ gws) (w3 : Cond.code Lib.objectInit ⟨#[0xb1]⟩ 1 none ∈ gws) (hf : 1 ≤ fr) (hlo : (st.map fun v => v.category).sum + 12 ≤ lo) (d : decode cc pc = .ok (.invokespecial idx, 3)) (kk : wq X nL (pc + 3) lv st M) : wq X nL pc lv (.ref k :: st) M := by
  intro H locs ls h1 h2 h3 h4 h5
  obtain ⟨hx, hb, hml, hown, hts, hK, hB, hlk, hRc, hRs, hRf, hRl⟩ := C
  refine W.objInit hx hb hown (hts _ w1) (hts _ w2) (hts _ w3) rfl (h3.1.trans hml.symm) rfl d (by rw [hRf]; exact hf) ?_ (kk H locs ls h1 h2 h3 h4 h5)
  rw [hRl]
  have e : ((st.map (re X.2.2.1)).map fun v => v.category) = st.map fun v => v.category := by rw [List.map_map]; exact List.map_congr_left fun a _ => re_cat _ a
  show 2 * 0 + (((st.map (re X.2.2.1)).map fun v => v.category)).sum + 12 ≤ lo
  rw [e]; omega
end QE
section QT
variable {p : Program} {l : Launch} {e : Env} {R : Room} {s : State} {m : MethodId} {args : Array Value} {below : List Frame} {meth : Method} {c : Code} {H : Heap} {locs : List Loc} {cells slots : Nat} {Q : State → Prop}
variable {free : Addr → Prop} {ls : Array Slot} {rest : List Value} {Qc : Array Value → State → Outcome → State → Prop} {XC : String → State → State → Prop}
theorem xk_throwS {cc : ByteArray} {pc : Nat} (hexec : p.tables.exec = Jvm.exec) (hb : c.code = cc) (hl : l.stackTraces = false) {own cls text : String} {names : List String} {ik is ic mc ms sa : Nat} {A : Nat → Prop}
    (hown : s.vm.findClass own = some m.cls) (hcls : Bundle.fit cls = true) (hnames : ∀ n ∈ names, Bundle.fit n = true)
    (hk : (Cond.classLink own ik cls).before args s = true) (hini : (Cond.initialized cls).before args s = true) (hstr : vk_R own is text sa s) (hat : ∀ w ∈ vx_atS own ic cls names, w.before args s = true)
    (hgood : ∀ w ∈ Cond.classLink own ik cls :: Cond.initialized cls :: vx_atS own ic cls names, vx_ot w = true)
    (hU : vx_Zq Bundle.tN "UNASSIGNED_STACK" Bundle.steD A s s.heap) (hN : vx_Zq Bundle.tN "SUPPRESSED_SENTINEL" Bundle.listD A s s.heap) (hS : va_S A s.heap H locs) (hsize : ls.size = c.maxLocals)
    (d0 : decode cc pc = .ok (.new ik, 3)) (d3 : decode cc (pc + 3) = .ok (.dup, 1)) (d4 : decode cc (pc + 4) = .ok (.ldc is, 2)) (d6 : decode cc (pc + 6) = .ok (.invokespecial ic, 3)) (d9 : decode cc (pc + 9) = .ok (.athrow, 1))
    (hout : ∀ x ∈ c.exceptionTable.toList, covers x (pc + 9) = false)
    (hRframes : names.length + 3 < R.frames) (hRlocals : (rest.map fun v => v.category).sum + (13 * (names.length + 1) + 43) ≤ R.locals) (hRcells : cells + 1 ≤ R.cells) (hRslots : slots + 6 ≤ R.slots) (hlocks : meth.locks = false)
    (hx : ∀ t : State, s.vm.Alike t.vm → t.heap.size = H.size + 1 → (∀ q : Nat, q < H.size → t.heap[q]? = H[q]?) → XC cls s t)
    (hf : ∀ z ∈ locs, free z.base) (hc : cells + 1 ≤ mc) (hs : slots + 6 ≤ ms) :
    W p l e R s m args below meth c H locs cells slots (vx_MQ below Qc XC args s mc ms free) (F0 m pc ls rest) := by
  intro T hT X
  have htr : e.platform.stackTraces = false := (show e.platform.stackTraces = l.stackTraces by rw [X.admits.platform]).trans hl
  have Y := vx_rebase X (R' := { frames := R.frames, locals := R.locals, cells := 1, slots := 6 }) (Nat.le_refl _) (Nat.le_refl _) hRcells hRslots
  obtain ⟨s', hA⟩ : ∃ z, z = (T.setVm s.vm).setFrames (.invoking m args :: below) := ⟨_, rfl⟩
  rw [← hA] at Y
  have hvm : s'.vm = s.vm := by rw [hA]; rfl
  have hhp : s'.heap = H := by rw [hA]; exact hT
  have hW0 : s.WarmedH s'.vm := by rw [hvm]; exact State.WarmedH.refl s
  have hat' : ∀ w ∈ vx_atS own ic cls names, w.before args s' = true := fun w hw => vx_ot_at hW0 hvm.symm (hgood w (List.mem_cons_of_mem _ (List.mem_cons_of_mem _ hw))) (hat w hw)
  have hk' : (Cond.classLink own ik cls).before args s' = true := vx_ot_at hW0 hvm.symm (hgood _ List.mem_cons_self) hk
  have hini' : (Cond.initialized cls).before args s' = true := vx_ot_at hW0 hvm.symm (hgood _ (List.mem_cons_of_mem _ List.mem_cons_self)) hini
  have hU' : vx_Zq Bundle.tN "UNASSIGNED_STACK" Bundle.steD A s' s'.heap := by rw [hhp]; exact vx_Zq.moved hW0.alike (hU.kept hS.2.1)
  have hN' : vx_Zq Bundle.tN "SUPPRESSED_SENTINEL" Bundle.listD A s' s'.heap := by rw [hhp]; exact vx_Zq.moved hW0.alike (hN.kept hS.2.1)
  have h : ∀ w ∈ Bundle.ownAtoms own ic cls names, w.before args s' = true := vx_own hat' (vx_isRefq hU'.1) (vx_isRefq hN'.1) hU'.2.word hN'.2.word
  have hown' : s'.vm.findClass own = some m.cls := by rw [hvm]; exact hown
  have hins : (Cond.instantiable cls 6).before args s' = true := h _ (by simp [Bundle.ownAtoms])
  obtain ⟨vm₁, cX, kX, hfX, hkX, -, -, X₁, st1⟩ := Y.newCold hexec (own := own) (C := cls) (index := ik) (n := 6) hown' hk' hins hini'
    (g := F0 m pc ls rest) rfl (by rw [hb]; exact d0) (Nat.le_refl _) (Nat.le_refl _)
  generalize hT1 : (T.setVm vm₁).pushCell { cls := cX, slots := kX.instanceTypes.map defaultValue, vm := .none } = T1 at X₁ st1
  have hcat : (Value.ref T.heap.size).category = 1 := rfl
  have hcellA : T1.heap[T.heap.size]? = some (freshCell cX kX) := by rw [← hT1]; exact State.heap_pushCell_size _ _
  have d3' : decode c.code (pc + 3) = .ok (.dup, 1) := by rw [hb]; exact d3
  have d4' : decode c.code (pc + 4) = .ok (.ldc is, 2) := by rw [hb]; exact d4
  have hstr' : vk_R own is text sa s' := vk_R.warm hW0 hstr
  obtain ⟨U, hsteps, hrun, hend, hW, hsame, ce, hce, hO⟩ := X₁.ctorThrowS hexec htr (own := own) (cls := cls) (names := names) (ic := ic) hown' hcls hnames h (fun x hx => nomatch hx) hfX hkX hcellA (by rw [hhp, hT]; exact Nat.le_refl _) (msg := .ref sa) rfl
    (g := { method := m, pc := pc + 6, locals := ls, stack := .ref sa :: .ref T.heap.size :: .ref T.heap.size :: rest, locked := none }) rfl hsize rfl rfl (rest := rest) rfl
    (by rw [hb]; exact d6) (by rw [hb]; exact d9) hout hRframes (by simp only [List.map_cons, List.sum_cons, hcat]; omega) hlocks
  obtain ⟨f1, f2⟩ := vx_frame hsame
  rw [hhp] at f1 f2
  have hWs : s.WarmedH U.vm := State.WarmedH.trans hW0 hW
  have hcl : s.vm.findClass cls = some ce.cls := by
    have h9 := hO.cls
    rw [hvm] at h9
    exact h9
  have hall : s.sameButNew ({ U with vm := s.vm } : State) locs mc ms := by
    subst hA
    obtain ⟨e1, e2⟩ := hsame
    rw [State.setFrames_setFrames] at e1
    have h2 : (T.setVm s.vm).sameButNew ({ U with vm := s.vm } : State) [] (0 + 1) (0 + 6) := ⟨e1, e2⟩
    have h3 := X.same.trans h2
    rw [List.append_nil] at h3
    exact h3.mono hc hs
  refine ⟨U, ?_, .threw T.heap.size, hrun, hend, Or.inr ⟨T.heap.size, rfl, cls, ce, locs, hx U hWs.alike (by have z1 := hsame.2.2.1; have z2 := (Array.getElem?_eq_some_iff.mp hce).1; rw [hhp] at z1; rw [hT] at z2; have z3 : U.heap.size ≤ H.size + 1 := z1; omega) (fun q hq => f2 q hq (fun z hz => nomatch hz)), hce, hO.vm, hcl, hWs, hall, hf⟩⟩
  refine st1 _ ?_
  show Steps p.tables e below (T1.setTop { method := m, pc := pc + 3, locals := ls, stack := .ref T.heap.size :: rest, locked := none }) _
  jvm_step X₁.here [X₁.here.top, hexec, d3', Value.category]
  exact X₁.ldcString hexec (own := own) (text := text) (index := is) (a := sa) hown' hstr'.1 hstr'.2
    (g := { method := m, pc := pc + 4, locals := ls, stack := .ref T.heap.size :: .ref T.heap.size :: rest, locked := none }) rfl d4' _ hsteps
theorem xk_throwSW {cc : ByteArray} {pc : Nat} (hexec : p.tables.exec = Jvm.exec) (hb : c.code = cc) (hl : l.stackTraces = false) {own cls text : String} {names : List String} {ik is ic mc ms sa : Nat} {A : Nat → Prop}
    (hown : s.vm.findClass own = some m.cls) (hcls : Bundle.fit cls = true) (hnames : ∀ n ∈ names, Bundle.fit n = true)
    (hk : (Cond.classLink own ik cls).before args s = true) (hini : (Cond.initialized cls).before args s = true) (hstr : vk_R own is text sa s) (hat : ∀ w ∈ vx_atS own ic cls names, w.before args s = true)
    (hgood : ∀ w ∈ Cond.classLink own ik cls :: Cond.initialized cls :: vx_atS own ic cls names, vx_ot w = true)
    (hU : vx_Zq Bundle.tN "UNASSIGNED_STACK" Bundle.steD A s s.heap) (hN : vx_Zq Bundle.tN "SUPPRESSED_SENTINEL" Bundle.listD A s s.heap) (hS : va_S A s.heap H locs) (hsize : ls.size = c.maxLocals)
    (d0 : decode cc pc = .ok (.new ik, 3)) (d3 : decode cc (pc + 3) = .ok (.dup, 1)) (d4 : decode cc (pc + 4) = .ok (.ldc_w is, 3)) (d7 : decode cc (pc + 7) = .ok (.invokespecial ic, 3)) (d10 : decode cc (pc + 10) = .ok (.athrow, 1))
    (hout : ∀ x ∈ c.exceptionTable.toList, covers x (pc + 10) = false)
    (hRframes : names.length + 3 < R.frames) (hRlocals : (rest.map fun v => v.category).sum + (13 * (names.length + 1) + 43) ≤ R.locals) (hRcells : cells + 1 ≤ R.cells) (hRslots : slots + 6 ≤ R.slots) (hlocks : meth.locks = false)
    (hx : ∀ t : State, s.vm.Alike t.vm → t.heap.size = H.size + 1 → (∀ q : Nat, q < H.size → t.heap[q]? = H[q]?) → XC cls s t)
    (hf : ∀ z ∈ locs, free z.base) (hc : cells + 1 ≤ mc) (hs : slots + 6 ≤ ms) :
    W p l e R s m args below meth c H locs cells slots (vx_MQ below Qc XC args s mc ms free) (F0 m pc ls rest) := by
  intro T hT X
  have htr : e.platform.stackTraces = false := (show e.platform.stackTraces = l.stackTraces by rw [X.admits.platform]).trans hl
  have Y := vx_rebase X (R' := { frames := R.frames, locals := R.locals, cells := 1, slots := 6 }) (Nat.le_refl _) (Nat.le_refl _) hRcells hRslots
  obtain ⟨s', hA⟩ : ∃ z, z = (T.setVm s.vm).setFrames (.invoking m args :: below) := ⟨_, rfl⟩
  rw [← hA] at Y
  have hvm : s'.vm = s.vm := by rw [hA]; rfl
  have hhp : s'.heap = H := by rw [hA]; exact hT
  have hW0 : s.WarmedH s'.vm := by rw [hvm]; exact State.WarmedH.refl s
  have hat' : ∀ w ∈ vx_atS own ic cls names, w.before args s' = true := fun w hw => vx_ot_at hW0 hvm.symm (hgood w (List.mem_cons_of_mem _ (List.mem_cons_of_mem _ hw))) (hat w hw)
  have hk' : (Cond.classLink own ik cls).before args s' = true := vx_ot_at hW0 hvm.symm (hgood _ List.mem_cons_self) hk
  have hini' : (Cond.initialized cls).before args s' = true := vx_ot_at hW0 hvm.symm (hgood _ (List.mem_cons_of_mem _ List.mem_cons_self)) hini
  have hU' : vx_Zq Bundle.tN "UNASSIGNED_STACK" Bundle.steD A s' s'.heap := by rw [hhp]; exact vx_Zq.moved hW0.alike (hU.kept hS.2.1)
  have hN' : vx_Zq Bundle.tN "SUPPRESSED_SENTINEL" Bundle.listD A s' s'.heap := by rw [hhp]; exact vx_Zq.moved hW0.alike (hN.kept hS.2.1)
  have h : ∀ w ∈ Bundle.ownAtoms own ic cls names, w.before args s' = true := vx_own hat' (vx_isRefq hU'.1) (vx_isRefq hN'.1) hU'.2.word hN'.2.word
  have hown' : s'.vm.findClass own = some m.cls := by rw [hvm]; exact hown
  have hins : (Cond.instantiable cls 6).before args s' = true := h _ (by simp [Bundle.ownAtoms])
  obtain ⟨vm₁, cX, kX, hfX, hkX, -, -, X₁, st1⟩ := Y.newCold hexec (own := own) (C := cls) (index := ik) (n := 6) hown' hk' hins hini'
    (g := F0 m pc ls rest) rfl (by rw [hb]; exact d0) (Nat.le_refl _) (Nat.le_refl _)
  generalize hT1 : (T.setVm vm₁).pushCell { cls := cX, slots := kX.instanceTypes.map defaultValue, vm := .none } = T1 at X₁ st1
  have hcat : (Value.ref T.heap.size).category = 1 := rfl
  have hcellA : T1.heap[T.heap.size]? = some (freshCell cX kX) := by rw [← hT1]; exact State.heap_pushCell_size _ _
  have d3' : decode c.code (pc + 3) = .ok (.dup, 1) := by rw [hb]; exact d3
  have d4' : decode c.code (pc + 4) = .ok (.ldc_w is, 3) := by rw [hb]; exact d4
  have hstr' : vk_R own is text sa s' := vk_R.warm hW0 hstr
  obtain ⟨U, hsteps, hrun, hend, hW, hsame, ce, hce, hO⟩ := X₁.ctorThrowS hexec htr (own := own) (cls := cls) (names := names) (ic := ic) hown' hcls hnames h (fun x hx => nomatch hx) hfX hkX hcellA (by rw [hhp, hT]; exact Nat.le_refl _) (msg := .ref sa) rfl
    (g := { method := m, pc := pc + 7, locals := ls, stack := .ref sa :: .ref T.heap.size :: .ref T.heap.size :: rest, locked := none }) rfl hsize rfl rfl (rest := rest) rfl
    (by rw [hb]; exact d7) (by rw [hb]; exact d10) hout hRframes (by simp only [List.map_cons, List.sum_cons, hcat]; omega) hlocks
  obtain ⟨f1, f2⟩ := vx_frame hsame
  rw [hhp] at f1 f2
  have hWs : s.WarmedH U.vm := State.WarmedH.trans hW0 hW
  have hcl : s.vm.findClass cls = some ce.cls := by
    have h9 := hO.cls
    rw [hvm] at h9
    exact h9
  have hall : s.sameButNew ({ U with vm := s.vm } : State) locs mc ms := by
    subst hA
    obtain ⟨e1, e2⟩ := hsame
    rw [State.setFrames_setFrames] at e1
    have h2 : (T.setVm s.vm).sameButNew ({ U with vm := s.vm } : State) [] (0 + 1) (0 + 6) := ⟨e1, e2⟩
    have h3 := X.same.trans h2
    rw [List.append_nil] at h3
    exact h3.mono hc hs
  refine ⟨U, ?_, .threw T.heap.size, hrun, hend, Or.inr ⟨T.heap.size, rfl, cls, ce, locs, hx U hWs.alike (by have z1 := hsame.2.2.1; have z2 := (Array.getElem?_eq_some_iff.mp hce).1; rw [hhp] at z1; rw [hT] at z2; have z3 : U.heap.size ≤ H.size + 1 := z1; omega) (fun q hq => f2 q hq (fun z hz => nomatch hz)), hce, hO.vm, hcl, hWs, hall, hf⟩⟩
  refine st1 _ ?_
  show Steps p.tables e below (T1.setTop { method := m, pc := pc + 3, locals := ls, stack := .ref T.heap.size :: rest, locked := none }) _
  jvm_step X₁.here [X₁.here.top, hexec, d3', Value.category]
  exact X₁.ldcStringW hexec (own := own) (text := text) (index := is) (a := sa) hown' hstr'.1 hstr'.2
    (g := { method := m, pc := pc + 4, locals := ls, stack := .ref T.heap.size :: .ref T.heap.size :: rest, locked := none }) rfl d4' _ hsteps
end QT
