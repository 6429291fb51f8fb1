def rs_pI (x : Int32) : Rs := .inl (some (.int x))
def rs_pL (x : Int64) : Rs := .inl (some (.long x))
def rs_pR (x : Nat) : Rs := .inl (some (.ref x))
def rs_pV (_ : Unit) : Rs := .inl none
def rs_mI (x : Int32 × Mem) : Rs := .inl (some (.int x.1))
def rs_mL (x : Int64 × Mem) : Rs := .inl (some (.long x.1))
def rs_mR (x : Nat × Mem) : Rs := .inl (some (.ref x.1))
def rs_mV (_ : Mem) : Rs := .inl none
def ms_mI (x : Int32 × Mem) : Mem := x.2
def ms_mL (x : Int64 × Mem) : Mem := x.2
def ms_mR (x : Nat × Mem) : Mem := x.2
def ms_mV (x : Mem) : Mem := x
def rs_tI (x : (Int32 × Mem) ⊕ (Nat × Mem)) : Rs := match x with
  | .inl a => .inl (some (.int a.1))
  | .inr a => .inr a.1
def ms_tI (x : (Int32 × Mem) ⊕ (Nat × Mem)) : Mem := match x with
  | .inl a => a.2
  | .inr a => a.2
def rs_tV (x : Mem ⊕ (Nat × Mem)) : Rs := match x with
  | .inl _ => .inl none
  | .inr a => .inr a.1
def ms_tV (x : Mem ⊕ (Nat × Mem)) : Mem := match x with
  | .inl a => a
  | .inr a => a.2
section QX
variable {X : CX} {cc : ByteArray} {nL pc fr lo : Nat} {own : String} {lv : List (Nat × Value)} {st : List Value} {M M' : Mem}
theorem q_topI {x x' : Int32} (hx : x' = x) (k : wq X nL pc lv (.int x' :: st) M) : wq X nL pc lv (.int x :: st) M := by subst hx; exact k
theorem q_topL {x x' : Int64} (hx : x' = x) (k : wq X nL pc lv (.long x' :: st) M) : wq X nL pc lv (.long x :: st) M := by subst hx; exact k
theorem q_getQ0 {idx ci k j : Nat} (C : CK X cc nL own fr lo) (L : FL own idx ci j) (hk : kdf (ci, 0) j = 2) (h : gQ M ci k j = some none) (d : decode cc pc = .ok (.getfield idx, 3)) (kk : wq X nL (pc + 3) lv (.null :: st) M) : wq X nL pc lv (.ref k :: st) M := q_getQ C L hk h d kk
theorem q_getQ1 {idx ci k j v : Nat} (C : CK X cc nL own fr lo) (L : FL own idx ci j) (hk : kdf (ci, 0) j = 2) (h : gQ M ci k j = some (some v)) (d : decode cc pc = .ok (.getfield idx, 3)) (kk : wq X nL (pc + 3) lv (.ref v :: st) M) : wq X nL pc lv (.ref k :: st) M := q_getQ C L hk h d kk
theorem q_aaload0 {k : Nat} {i : Int32} (C : CK X cc nL own fr lo) (h : aQ M k i = some none) (d : decode cc pc = .ok (.aaload, 1)) (kk : wq X nL (pc + 1) lv (.null :: st) M) : wq X nL pc lv (.int i :: .ref k :: st) M := q_aaload C h d kk
theorem q_aaload1 {k v : Nat} {i : Int32} (C : CK X cc nL own fr lo) (h : aQ M k i = some (some v)) (d : decode cc pc = .ok (.aaload, 1)) (kk : wq X nL (pc + 1) lv (.ref v :: st) M) : wq X nL pc lv (.int i :: .ref k :: st) M := q_aaload C h d kk
theorem q_putP {idx ci k j v : Nat} {ty : FieldType} (hty : isRT ty = true) (C : CK X cc nL own fr lo) (L : FP own idx ci j ty false) (hk : kdf (ci, 0) j = 2) (h : pQ M ci k j (some v) = some M') (d : decode cc pc = .ok (.putfield idx, 3)) (kk : wq X nL (pc + 3) lv st M') : wq X nL pc lv (.ref v :: .ref k :: st) M := q_putQ (v := some v) hty C L hk h d kk
theorem q_putN {idx ci k j : Nat} {ty : FieldType} (hty : isRT ty = true) (C : CK X cc nL own fr lo) (L : FP own idx ci j ty false) (hk : kdf (ci, 0) j = 2) (h : pQ M ci k j none = some M') (d : decode cc pc = .ok (.putfield idx, 3)) (kk : wq X nL (pc + 3) lv st M') : wq X nL pc lv (.null :: .ref k :: st) M := q_putQ (v := none) hty C L hk h d kk
theorem q_zretE {v w : Int32} (hw : nz v = w) (C : CK X cc nL own fr lo) (F : FIN X (some .boolean) (.inl (some (.int w))) M) (d : decode cc pc = .ok (.ireturn, 1)) : wq X nL pc lv [.int v] M := by subst hw; exact q_zret C F d
end QX
