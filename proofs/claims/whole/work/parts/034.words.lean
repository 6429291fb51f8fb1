/-! ===== what the printed functions are made of ===== -/
theorem bindE {α β : Type} {o : Option α} {f : α → Option β} {y : β} (h : o.bind f = some y) : ∃ a, o = some a ∧ f a = some y := by
  cases o with
  | none => cases h
  | some a => exact ⟨a, rfl, h⟩
def bd2 {α β γ : Type} (o : Option (α × β)) (f : α → β → Option γ) : Option γ := o.bind fun r => f r.1 r.2
theorem bd2E {α β γ : Type} {o : Option (α × β)} {f : α → β → Option γ} {y : γ} (h : bd2 o f = some y) : ∃ a b, o = some (a, b) ∧ f a b = some y := by
  obtain ⟨⟨a, b⟩, e, h⟩ := bindE h
  exact ⟨a, b, e, h⟩
def bdT {α β γ ε : Type} (o : Option ((α × β) ⊕ (ε × β))) (f : α → β → Option γ) (g : ε → β → Option γ) : Option γ := o.bind fun r => match r with
  | .inl a => f a.1 a.2
  | .inr a => g a.1 a.2
theorem bdTE {α β γ ε : Type} {o : Option ((α × β) ⊕ (ε × β))} {f : α → β → Option γ} {g : ε → β → Option γ} {y : γ} (h : bdT o f g = some y) : (∃ a b, o = some (.inl (a, b)) ∧ f a b = some y) ∨ ∃ a b, o = some (.inr (a, b)) ∧ g a b = some y := by
  obtain ⟨r, e, h⟩ := bindE h
  rcases r with ⟨a, b⟩ | ⟨a, b⟩
  · exact Or.inl ⟨a, b, e, h⟩
  · exact Or.inr ⟨a, b, e, h⟩
def bdV {β γ ε : Type} (o : Option (β ⊕ (ε × β))) (f : β → Option γ) (g : ε → β → Option γ) : Option γ := o.bind fun r => match r with
  | .inl a => f a
  | .inr a => g a.1 a.2
theorem bdVE {β γ ε : Type} {o : Option (β ⊕ (ε × β))} {f : β → Option γ} {g : ε → β → Option γ} {y : γ} (h : bdV o f g = some y) : (∃ b, o = some (.inl b) ∧ f b = some y) ∨ ∃ a b, o = some (.inr (a, b)) ∧ g a b = some y := by
  obtain ⟨r, e, h⟩ := bindE h
  rcases r with b | ⟨a, b⟩
  · exact Or.inl ⟨b, e, h⟩
  · exact Or.inr ⟨a, b, e, h⟩
def bdQ {β : Type} (o : Option (Option Nat)) (a : Option β) (f : Nat → Option β) : Option β := o.bind fun q => match q with
  | none => a
  | some k => f k
theorem bdQE {β : Type} {o : Option (Option Nat)} {a : Option β} {f : Nat → Option β} {y : β} (h : bdQ o a f = some y) : (o = some none ∧ a = some y) ∨ ∃ k, o = some (some k) ∧ f k = some y := by
  obtain ⟨r, e, h⟩ := bindE h
  cases r with
  | none => exact Or.inl ⟨e, h⟩
  | some k => exact Or.inr ⟨k, e, h⟩
def ckO {β : Type} (M : Mem) (ci b : Nat) (k : Option β) : Option β := if M.1[b]? = some (ci, 0) then k else none
theorem ckOE {β : Type} {M : Mem} {ci b : Nat} {k : Option β} {y : β} (h : ckO M ci b k = some y) : M.1[b]? = some (ci, 0) ∧ k = some y := by
  unfold ckO at h
  split at h
  · rename_i e; exact ⟨e, h⟩
  · cases h
def nm {α β : Type} (e : α) (f : α → Option β) : Option β := f e
theorem nmE {α β : Type} {e : α} {f : α → Option β} {y : β} (h : nm e f = some y) : ∃ x, x = e ∧ f x = some y := ⟨e, rfl, h⟩
theorem ifT {α : Type} {c : Prop} [Decidable c] {a b y : α} (hc : c) (h : (if c then a else b) = y) : a = y := by rw [if_pos hc] at h; exact h
theorem ifF {α : Type} {c : Prop} [Decidable c] {a b y : α} (hc : ¬ c) (h : (if c then a else b) = y) : b = y := by rw [if_neg hc] at h; exact h
theorem someI {α : Type} {a y : α} (h : some a = some y) : y = a := (Option.some.inj h).symm
theorem elimL {α β γ : Type} {f : α → γ} {g : β → γ} {a : α} {y : γ} (h : Sum.elim f g (.inl a) = y) : f a = y := h
theorem elimR {α β γ : Type} {f : α → γ} {g : β → γ} {b : β} {y : γ} (h : Sum.elim f g (.inr b) = y) : g b = y := h
theorem neI {x k : Int32} (h : ¬ x = k) : x.toInt ≠ k.toInt := fun e => h (Int32.toInt_inj.mp e)
def u2 {a b z : Type} (p : a × b) (f : a → b → z) : z := f p.1 p.2
def u3 {a b c z : Type} (p : a × b × c) (f : a → b → c → z) : z := f p.1 p.2.1 p.2.2
def u4 {a b c d z : Type} (p : a × b × c × d) (f : a → b → c → d → z) : z := f p.1 p.2.1 p.2.2.1 p.2.2.2
def u5 {a b c d e z : Type} (p : a × b × c × d × e) (f : a → b → c → d → e → z) : z := f p.1 p.2.1 p.2.2.1 p.2.2.2.1 p.2.2.2.2
def u6 {a b c d e g z : Type} (p : a × b × c × d × e × g) (f : a → b → c → d → e → g → z) : z := f p.1 p.2.1 p.2.2.1 p.2.2.2.1 p.2.2.2.2.1 p.2.2.2.2.2
theorem u2E {a b z : Type} {x1 : a} {x2 : b} {f : a → b → z} {y : z} (h : u2 (x1, x2) f = y) : f x1 x2 = y := h
theorem u3E {a b c z : Type} {x1 : a} {x2 : b} {x3 : c} {f : a → b → c → z} {y : z} (h : u3 (x1, x2, x3) f = y) : f x1 x2 x3 = y := h
theorem u4E {a b c d z : Type} {x1 : a} {x2 : b} {x3 : c} {x4 : d} {f : a → b → c → d → z} {y : z} (h : u4 (x1, x2, x3, x4) f = y) : f x1 x2 x3 x4 = y := h
theorem u5E {a b c d e z : Type} {x1 : a} {x2 : b} {x3 : c} {x4 : d} {x5 : e} {f : a → b → c → d → e → z} {y : z} (h : u5 (x1, x2, x3, x4, x5) f = y) : f x1 x2 x3 x4 x5 = y := h
theorem u6E {a b c d e g z : Type} {x1 : a} {x2 : b} {x3 : c} {x4 : d} {x5 : e} {x6 : g} {f : a → b → c → d → e → g → z} {y : z} (h : u6 (x1, x2, x3, x4, x5, x6) f = y) : f x1 x2 x3 x4 x5 x6 = y := h
/-- a loop: so many turns at most -/
def iter {σ ρ : Type} (step : σ → Option (σ ⊕ ρ)) : Nat → σ → Option ρ
  | 0, _ => none
  | n + 1, s => (step s).bind fun y => match y with
    | .inl s' => iter step n s'
    | .inr r => some r
theorem iter_mono {σ ρ : Type} {step : σ → Option (σ ⊕ ρ)} {r : ρ} : ∀ (n k : Nat) (s : σ), iter step n s = some r → n ≤ k → iter step k s = some r := by
  intro n
  induction n with
  | zero => intro k s h; cases h
  | succ n ih =>
    intro k s h hk
    obtain ⟨k', rfl⟩ : ∃ k', k = k' + 1 := ⟨k - 1, by omega⟩
    obtain ⟨y, hy, h⟩ := bindE h
    show (step s).bind _ = some r
    rw [hy]
    cases y with
    | inl s' => exact ih k' s' h (by omega)
    | inr r' => exact h
/-- a loop, to its end: none if it has none -/
noncomputable def loop {σ ρ : Type} (step : σ → Option (σ ⊕ ρ)) (s : σ) : Option ρ := by
  classical
  exact if h : ∃ (n : Nat) (r : ρ), iter step n s = some r then some h.choose_spec.choose else none
theorem loop_of {σ ρ : Type} {step : σ → Option (σ ⊕ ρ)} {s : σ} {r : ρ} {n : Nat} (h : iter step n s = some r) : loop step s = some r := by
  unfold loop
  have h1 : ∃ (n : Nat) (r : ρ), iter step n s = some r := ⟨n, r, h⟩
  rw [dif_pos h1]
  have h2 := h1.choose_spec.choose_spec
  have h3 := iter_mono _ (max n h1.choose) s h (Nat.le_max_left _ _)
  have h4 := iter_mono _ (max n h1.choose) s h2 (Nat.le_max_right _ _)
  exact h4.symm.trans h3
theorem loop_iter {σ ρ : Type} {step : σ → Option (σ ⊕ ρ)} {s : σ} {r : ρ} (h : loop step s = some r) : ∃ n, iter step n s = some r := by
  unfold loop at h
  split at h
  · rename_i h1
    have h2 := h1.choose_spec.choose_spec
    rw [Option.some.inj h] at h2
    exact ⟨_, h2⟩
  · cases h
theorem loop_ind {σ ρ : Type} {step : σ → Option (σ ⊕ ρ)} {s : σ} {r : ρ} {P : σ → Prop} (h : loop step s = some r) (hs : ∀ s y, step s = some y → (∀ s', y = .inl s' → P s') → (∀ r', y = .inr r' → r' = r) → P s) : P s := by
  obtain ⟨n, hn⟩ := loop_iter h
  clear h
  induction n generalizing s with
  | zero => cases hn
  | succ n ih =>
    obtain ⟨y, hy, hn⟩ := bindE hn
    refine hs s y hy (fun s' e => ?_) (fun r' e => ?_)
    · subst e; exact ih hn
    · subst e; exact Option.some.inj hn
theorem loop_turn {σ ρ : Type} {step : σ → Option (σ ⊕ ρ)} {s s' : σ} (h : step s = some (.inl s')) : loop step s = loop step s' := by
  cases hl : loop step s' with
  | some r =>
    obtain ⟨n, hn⟩ := loop_iter hl
    refine loop_of (n := n + 1) ?_
    show (step s).bind _ = some r
    rw [h]; exact hn
  | none =>
    cases hl2 : loop step s with
    | none => rfl
    | some r =>
      obtain ⟨n, hn⟩ := loop_iter hl2
      cases n with
      | zero => cases hn
      | succ n =>
        obtain ⟨y, hy, hn⟩ := bindE hn
        rw [h] at hy
        cases hy
        rw [loop_of hn] at hl
        cases hl
theorem loop_end {σ ρ : Type} {step : σ → Option (σ ⊕ ρ)} {s : σ} {r : ρ} (h : step s = some (.inr r)) : loop step s = some r := by
  refine loop_of (n := 1) ?_
  show (step s).bind _ = some r
  rw [h]
  rfl
-- results
def rs_pI (x : Int32) : Rs := .inl (some (.int x))
def rs_pL (x : Int64) : Rs := .inl (some (.long x))
def rs_pR (x : Nat) : Rs := .inl (some (.ref x))
def rs_pV (_ : Unit) : Rs := .inl none
def rs_mI (x : Int32 × Mem) : Rs := .inl (some (.int x.1))
def rs_mL (x : Int64 × Mem) : Rs := .inl (some (.long x.1))
def rs_mR (x : Nat × Mem) : Rs := .inl (some (.ref x.1))
def rs_mV (_ : Mem) : Rs := .inl none
def ms_mI (x : Int32 × Mem) : Mem := x.2
def ms_mL (x : Int64 × Mem) : Mem := x.2
def ms_mR (x : Nat × Mem) : Mem := x.2
def ms_mV (x : Mem) : Mem := x
def rs_tI (x : (Int32 × Mem) ⊕ (Nat × Mem)) : Rs := match x with
  | .inl a => .inl (some (.int a.1))
  | .inr a => .inr a.1
def ms_tI (x : (Int32 × Mem) ⊕ (Nat × Mem)) : Mem := match x with
  | .inl a => a.2
  | .inr a => a.2
def rs_tV (x : Mem ⊕ (Nat × Mem)) : Rs := match x with
  | .inl _ => .inl none
  | .inr a => .inr a.1
def ms_tV (x : Mem ⊕ (Nat × Mem)) : Mem := match x with
  | .inl a => a
  | .inr a => a.2
section QX
variable {X : CX} {cc : ByteArray} {nL pc fr lo : Nat} {own : String} {lv : List (Nat × Value)} {st : List Value} {M M' : Mem}
theorem q_topI {x x' : Int32} (hx : x' = x) (k : wq X nL pc lv (.int x' :: st) M) : wq X nL pc lv (.int x :: st) M := by subst hx; exact k
theorem q_topL {x x' : Int64} (hx : x' = x) (k : wq X nL pc lv (.long x' :: st) M) : wq X nL pc lv (.long x :: st) M := by subst hx; exact k
theorem q_getQ0 {idx ci k j : Nat} (C : CK X cc nL own fr lo) (L : FL own idx ci j) (hk : kdf (ci, 0) j = 2) (h : gQ M ci k j = some none) (d : decode cc pc = .ok (.getfield idx, 3)) (kk : wq X nL (pc + 3) lv (.null :: st) M) : wq X nL pc lv (.ref k :: st) M := q_getQ C L hk h d kk
theorem q_getQ1 {idx ci k j v : Nat} (C : CK X cc nL own fr lo) (L : FL own idx ci j) (hk : kdf (ci, 0) j = 2) (h : gQ M ci k j = some (some v)) (d : decode cc pc = .ok (.getfield idx, 3)) (kk : wq X nL (pc + 3) lv (.ref v :: st) M) : wq X nL pc lv (.ref k :: st) M := q_getQ C L hk h d kk
theorem q_aaload0 {k : Nat} {i : Int32} (C : CK X cc nL own fr lo) (h : aQ M k i = some none) (d : decode cc pc = .ok (.aaload, 1)) (kk : wq X nL (pc + 1) lv (.null :: st) M) : wq X nL pc lv (.int i :: .ref k :: st) M := q_aaload C h d kk
theorem q_aaload1 {k v : Nat} {i : Int32} (C : CK X cc nL own fr lo) (h : aQ M k i = some (some v)) (d : decode cc pc = .ok (.aaload, 1)) (kk : wq X nL (pc + 1) lv (.ref v :: st) M) : wq X nL pc lv (.int i :: .ref k :: st) M := q_aaload C h d kk
theorem q_putP {idx ci k j v : Nat} {ty : FieldType} (hty : isRT ty = true) (C : CK X cc nL own fr lo) (L : FP own idx ci j ty false) (hk : kdf (ci, 0) j = 2) (h : pQ M ci k j (some v) = some M') (d : decode cc pc = .ok (.putfield idx, 3)) (kk : wq X nL (pc + 3) lv st M') : wq X nL pc lv (.ref v :: .ref k :: st) M := q_putQ (v := some v) hty C L hk h d kk
theorem q_putN {idx ci k j : Nat} {ty : FieldType} (hty : isRT ty = true) (C : CK X cc nL own fr lo) (L : FP own idx ci j ty false) (hk : kdf (ci, 0) j = 2) (h : pQ M ci k j none = some M') (d : decode cc pc = .ok (.putfield idx, 3)) (kk : wq X nL (pc + 3) lv st M') : wq X nL pc lv (.null :: .ref k :: st) M := q_putQ (v := none) hty C L hk h d kk
theorem q_zretE {v w : Int32} (hw : nz v = w) (C : CK X cc nL own fr lo) (F : FIN X (some .boolean) (.inl (some (.int w))) M) (d : decode cc pc = .ok (.ireturn, 1)) : wq X nL pc lv [.int v] M := by subst hw; exact q_zret C F d
end QX
