/-! ===== the law's own rows: the script, its end ===== -/
def HSC (X : CX) (L : Nat) (xs : Nat → Int32) : Prop := va_X (X.2.2.1.2.2.2.1 27) L xs X.1.2.2.2.2.1 X.1.2.2.2.2.1.heap ∧ X.2.2.1.2.2.2.1 27 < X.1.2.2.2.2.1.heap.size ∧ ¬ gA X.2.2.1 (X.2.2.1.2.2.2.1 27)
def R_law : String := "HornHousesLaw"
def lw_P (b : Addr) (xs : List Int32) (args : Array Value) (s : State) : Prop := args = #[.ref b] ∧ s.IntsAt b xs ∧ xs.length ≤ 3072 ∧ (Jvm.Cond.and given_1 narrow_1).before args s = true
def lw_Q (_ : Array Value) (s : State) (o : Outcome) (t : State) : Prop := o = .returned (some (.int 1)) ∧ Framed s o t [] 601024 7293034
def lw_Z (below : List Frame) (a : Array Value) (s : State) : State → Prop := fun t => ∃ o, t.status = .running ∧ Ended t below o ∧ lw_Q a s o t
theorem lw_ret {p : Program} {l : Launch} {e : Env} {s : State} {m : MethodId} {below : List Frame} {meth : Method} {c : Code} {b : Nat} (hx : p.tables.exec = Jvm.exec) (hb : c.code = code) (hr : meth.sig.returnType = ret) (hlocks : meth.locks = false) {pc : Nat} {H : Heap} {ls : Array Slot} (hdg : decode code pc = .ok (.ireturn, 1)) : W p l e room_1 s m #[Value.ref b] below meth c H [] 601024 7293034 (lw_Z below #[Value.ref b] s) (F0 m pc ls [.int 1]) := by
  intro T hT X
  obtain ⟨fs, hret, hrun, hended, hW, hframe⟩ := X.leave (v := some (.int 1)) (hlocks := hlocks) (fun h => by rw [hr] at h; cases h)
  have hmeth' : T.vm.method? m = some meth := X.method'
  refine ⟨T.setFrames fs, ?_, .returned (some (.int 1)), hrun, hended, rfl, ⟨_, rfl⟩, hW, hframe⟩
  jvm_step X.here [X.here.top, hx, hb, hdg, hmeth', hr, ret, narrow_b1]
  (try refine ⟨rfl, ?_⟩); (try refine ⟨rfl, ?_⟩)
  first | (intro acts; rw [hret _ acts rfl rfl rfl]) | rw [hret _ _ rfl rfl rfl]
  exact Steps.refl _
def lw_At (p : Program) (s : State) (m : MethodId) (meth : Method) (c : Code) (b L : Nat) (xs : Nat → Int32) : Prop :=
  p.tables.exec = Jvm.exec ∧ c.code = code ∧ meth.sig.returnType = ret ∧ c.maxLocals = 7 ∧ s.vm.findClass R_law = some m.cls ∧ (∀ w ∈ lw_tbl, w.before #[Value.ref b] s = true) ∧ va_X b L xs s s.heap ∧ b < s.heap.size ∧ meth.locks = false ∧ (Jvm.Cond.and given_1 narrow_1).before #[Value.ref b] s = true
section QL
variable {X : CX} {cc : ByteArray} {nL pc fr lo : Nat} {own : String} {lv : List (Nat × Value)} {st : List Value} {M M' : Mem} {L : Nat} {xs : Nat → Int32}
theorem q_sald {i v : Int32} (C : CK X cc nL own fr lo) (hsc : HSC X L xs) (h : scr L xs i = some v) (d : decode cc pc = .ok (.iaload, 1)) (k : wq X nL (pc + 1) lv (.int v :: st) M) : wq X nL pc lv (.int i :: .retAddr 27 :: st) M := by
  intro H locs ls h1 h2 h3 h4 h5
  unfold scr at h
  split at h
  · cases h
  · rename_i hc
    cases h
    exact va_sld C.1 C.2.1 hsc.1 hsc.2.1 hsc.2.2 h2 hc d (k H locs ls h1 h2 h3 h4 h5)
theorem q_slen (C : CK X cc nL own fr lo) (hsc : HSC X L xs) (d : decode cc pc = .ok (.arraylength, 1)) (k : wq X nL (pc + 1) lv (.int (Int32.ofNat L) :: st) M) : wq X nL pc lv (.retAddr 27 :: st) M := fun H locs ls h1 h2 h3 h4 h5 => va_slen C.1 C.2.1 hsc.1 hsc.2.1 hsc.2.2 h2 d (k H locs ls h1 h2 h3 h4 h5)
/-- the law comes to its end with 1 -/
def FINL (X : CX) (y : Int32 × Mem) : Prop := y.1 = 1 ∧ ∃ b : Nat, X.2.1.1 = #[Value.ref b] ∧ X.2.2.2.2 = lw_Z X.2.1.2.1 #[Value.ref b] X.1.2.2.2.2.1 ∧ X.2.1.2.2.1.sig.returnType = ret ∧ X.1.2.2.2.1 = room_1 ∧ X.2.2.2.1.1.length = 0 ∧ mS X.2.2.2.1 = 0 ∧ X.2.2.1.2.2.1 = X.1.2.2.2.2.1.heap.size
theorem q_lawret {v : Int32} (C : CK X cL_law nL own fr lo) (F : FINL X (v, M)) (d : decode cL_law pc = .ok (.ireturn, 1)) : wq X nL pc lv [.int v] M := by
  intro H locs ls h1 h2 h3 h4 h5
  obtain ⟨hv, b, ha, hQ, hr, hR, h6, h7, h8⟩ := F
  have hv : v = 1 := hv
  subst hv
  rw [hQ, hR, ha]
  refine va_forget (fun q hq => by have := h2.2.2 q hq; rw [← h8]; exact this) ?_
  refine W.widen (k := 601024) (n := 7293034) (by have := h4.2; unfold CLM at this; omega) (by have := h5.2; unfold SLM at this; omega) ?_
  exact lw_ret C.1 C.2.1 hr C.2.2.2.2.2.2.2.1 d
end QL
