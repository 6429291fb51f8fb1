/-! ===== what the functions are made of ===== -/
def strB : List (List Int32) := [[116, 104, 101, 32, 116, 97, 112, 101, 32, 104, 97, 115, 32, 110, 111, 116, 32, 115, 111, 32, 109, 97, 110, 121, 32, 98, 121, 116, 101, 115], [104, 111, 117, 115, 101], [112, 101, 114, 115, 111, 110], [105, 110], [100, 97, 109, 112], [101, 97, 115, 101, 115], [104, 101, 101, 108], [115, 105, 122, 101], [103, 105, 118, 101], [119, 111, 114, 110], [100, 97, 121], [116, 105, 103, 104, 116], [110, 111, 116], [111, 114], [97, 110, 100], [98, 117, 114, 115, 116, 115], [110, 111, 32, 115, 117, 99, 104, 32, 99, 111, 117, 110, 116], [110, 111, 32, 115, 117, 99, 104, 32, 104, 111, 117, 115, 101], [110, 111, 32, 115, 117, 99, 104, 32, 116, 104, 105, 110, 103, 32, 111, 102, 32, 97, 32, 104, 111, 117, 115, 101], [110, 111, 32, 115, 117, 99, 104, 32, 112, 101, 114, 115, 111, 110], [110, 111, 32, 115, 117, 99, 104, 32, 116, 104, 105, 110, 103, 32, 111, 102, 32, 97, 32, 112, 101, 114, 115, 111, 110], [110, 111, 32, 115, 117, 99, 104, 32, 113, 117, 101, 115, 116, 105, 111, 110], [110, 111, 116, 32, 115, 111, 32, 109, 97, 110, 121, 32, 100, 97, 121, 115], [110, 111, 32, 115, 117, 99, 104, 32, 112, 108, 97, 99, 101], [110, 111, 32, 115, 117, 99, 104, 32, 100, 97, 121, 115, 32, 111, 114, 32, 116, 101, 110, 116, 104, 115], [98, 111, 116, 104, 32, 97, 114, 101, 32, 111, 110, 101], [110, 111, 32, 115, 117, 99, 104, 32, 115, 105, 122, 101]]
def nStr : Nat := 27
def cpI (M : Mem) (a : Nat) (sp : Int32) (b : Nat) (dp n : Int32) : Option Mem := (tl M 100 a).bind fun n0 => (tl M 100 b).bind fun n1 =>
  if sp < 0 ∨ dp < 0 ∨ n < 0 ∨ n0 < sp.toNatClampNeg + n.toNatClampNeg ∨ n1 < dp.toNatClampNeg + n.toNatClampNeg then none else some (M.1, rw1 M.2.1 b (va_cpy (M.2.1 a) (M.2.1 b) sp.toNatClampNeg dp.toNatClampNeg n.toNatClampNeg), M.2.2)
/-! ===== what the printed functions are made of ===== -/
theorem bindE {α β : Type} {o : Option α} {f : α → Option β} {y : β} (h : o.bind f = some y) : ∃ a, o = some a ∧ f a = some y := by
  cases o with
  | none => cases h
  | some a => exact ⟨a, rfl, h⟩
def bd2 {α β γ : Type} (o : Option (α × β)) (f : α → β → Option γ) : Option γ := o.bind fun r => f r.1 r.2
theorem bd2E {α β γ : Type} {o : Option (α × β)} {f : α → β → Option γ} {y : γ} (h : bd2 o f = some y) : ∃ a b, o = some (a, b) ∧ f a b = some y := by
  obtain ⟨⟨a, b⟩, e, h⟩ := bindE h
  exact ⟨a, b, e, h⟩
def bdT {α β γ ε : Type} (o : Option ((α × β) ⊕ (ε × β))) (f : α → β → Option γ) (g : ε → β → Option γ) : Option γ := o.bind fun r => match r with
  | .inl a => f a.1 a.2
  | .inr a => g a.1 a.2
theorem bdTE {α β γ ε : Type} {o : Option ((α × β) ⊕ (ε × β))} {f : α → β → Option γ} {g : ε → β → Option γ} {y : γ} (h : bdT o f g = some y) : (∃ a b, o = some (.inl (a, b)) ∧ f a b = some y) ∨ ∃ a b, o = some (.inr (a, b)) ∧ g a b = some y := by
  obtain ⟨r, e, h⟩ := bindE h
  rcases r with ⟨a, b⟩ | ⟨a, b⟩
  · exact Or.inl ⟨a, b, e, h⟩
  · exact Or.inr ⟨a, b, e, h⟩
def bdV {β γ ε : Type} (o : Option (β ⊕ (ε × β))) (f : β → Option γ) (g : ε → β → Option γ) : Option γ := o.bind fun r => match r with
  | .inl a => f a
  | .inr a => g a.1 a.2
theorem bdVE {β γ ε : Type} {o : Option (β ⊕ (ε × β))} {f : β → Option γ} {g : ε → β → Option γ} {y : γ} (h : bdV o f g = some y) : (∃ b, o = some (.inl b) ∧ f b = some y) ∨ ∃ a b, o = some (.inr (a, b)) ∧ g a b = some y := by
  obtain ⟨r, e, h⟩ := bindE h
  rcases r with b | ⟨a, b⟩
  · exact Or.inl ⟨b, e, h⟩
  · exact Or.inr ⟨a, b, e, h⟩
def bdQ {β : Type} (o : Option (Option Nat)) (a : Option β) (f : Nat → Option β) : Option β := o.bind fun q => match q with
  | none => a
  | some k => f k
theorem bdQE {β : Type} {o : Option (Option Nat)} {a : Option β} {f : Nat → Option β} {y : β} (h : bdQ o a f = some y) : (o = some none ∧ a = some y) ∨ ∃ k, o = some (some k) ∧ f k = some y := by
  obtain ⟨r, e, h⟩ := bindE h
  cases r with
  | none => exact Or.inl ⟨e, h⟩
  | some k => exact Or.inr ⟨k, e, h⟩
def ckO {β : Type} (M : Mem) (ci b : Nat) (k : Option β) : Option β := if M.1[b]? = some (ci, 0) then k else none
theorem ckOE {β : Type} {M : Mem} {ci b : Nat} {k : Option β} {y : β} (h : ckO M ci b k = some y) : M.1[b]? = some (ci, 0) ∧ k = some y := by
  unfold ckO at h
  split at h
  · rename_i e; exact ⟨e, h⟩
  · cases h
def nm {α β : Type} (e : α) (f : α → Option β) : Option β := f e
theorem nmE {α β : Type} {e : α} {f : α → Option β} {y : β} (h : nm e f = some y) : ∃ x, x = e ∧ f x = some y := ⟨e, rfl, h⟩
theorem ifT {α : Type} {c : Prop} [Decidable c] {a b y : α} (hc : c) (h : (if c then a else b) = y) : a = y := by rw [if_pos hc] at h; exact h
theorem ifF {α : Type} {c : Prop} [Decidable c] {a b y : α} (hc : ¬ c) (h : (if c then a else b) = y) : b = y := by rw [if_neg hc] at h; exact h
theorem someI {α : Type} {a y : α} (h : some a = some y) : y = a := (Option.some.inj h).symm
theorem elimL {α β γ : Type} {f : α → γ} {g : β → γ} {a : α} {y : γ} (h : Sum.elim f g (.inl a) = y) : f a = y := h
theorem elimR {α β γ : Type} {f : α → γ} {g : β → γ} {b : β} {y : γ} (h : Sum.elim f g (.inr b) = y) : g b = y := h
theorem neI {x k : Int32} (h : ¬ x = k) : x.toInt ≠ k.toInt := fun e => h (Int32.toInt_inj.mp e)
def u2 {a b z : Type} (p : a × b) (f : a → b → z) : z := f p.1 p.2
def u3 {a b c z : Type} (p : a × b × c) (f : a → b → c → z) : z := f p.1 p.2.1 p.2.2
def u4 {a b c d z : Type} (p : a × b × c × d) (f : a → b → c → d → z) : z := f p.1 p.2.1 p.2.2.1 p.2.2.2
def u5 {a b c d e z : Type} (p : a × b × c × d × e) (f : a → b → c → d → e → z) : z := f p.1 p.2.1 p.2.2.1 p.2.2.2.1 p.2.2.2.2
def u6 {a b c d e g z : Type} (p : a × b × c × d × e × g) (f : a → b → c → d → e → g → z) : z := f p.1 p.2.1 p.2.2.1 p.2.2.2.1 p.2.2.2.2.1 p.2.2.2.2.2
theorem u2E {a b z : Type} {x1 : a} {x2 : b} {f : a → b → z} {y : z} (h : u2 (x1, x2) f = y) : f x1 x2 = y := h
theorem u3E {a b c z : Type} {x1 : a} {x2 : b} {x3 : c} {f : a → b → c → z} {y : z} (h : u3 (x1, x2, x3) f = y) : f x1 x2 x3 = y := h
theorem u4E {a b c d z : Type} {x1 : a} {x2 : b} {x3 : c} {x4 : d} {f : a → b → c → d → z} {y : z} (h : u4 (x1, x2, x3, x4) f = y) : f x1 x2 x3 x4 = y := h
theorem u5E {a b c d e z : Type} {x1 : a} {x2 : b} {x3 : c} {x4 : d} {x5 : e} {f : a → b → c → d → e → z} {y : z} (h : u5 (x1, x2, x3, x4, x5) f = y) : f x1 x2 x3 x4 x5 = y := h
theorem u6E {a b c d e g z : Type} {x1 : a} {x2 : b} {x3 : c} {x4 : d} {x5 : e} {x6 : g} {f : a → b → c → d → e → g → z} {y : z} (h : u6 (x1, x2, x3, x4, x5, x6) f = y) : f x1 x2 x3 x4 x5 x6 = y := h
/-- a loop: so many turns at most -/
def iter {σ ρ : Type} (step : σ → Option (σ ⊕ ρ)) : Nat → σ → Option ρ
  | 0, _ => none
  | n + 1, s => (step s).bind fun y => match y with
    | .inl s' => iter step n s'
    | .inr r => some r
theorem iter_mono {σ ρ : Type} {step : σ → Option (σ ⊕ ρ)} {r : ρ} : ∀ (n k : Nat) (s : σ), iter step n s = some r → n ≤ k → iter step k s = some r := by
  intro n
  induction n with
  | zero => intro k s h; cases h
  | succ n ih =>
    intro k s h hk
    obtain ⟨k', rfl⟩ : ∃ k', k = k' + 1 := ⟨k - 1, by omega⟩
    obtain ⟨y, hy, h⟩ := bindE h
    show (step s).bind _ = some r
    rw [hy]
    cases y with
    | inl s' => exact ih k' s' h (by omega)
    | inr r' => exact h
/-- a loop, to its end: none if it has none -/
noncomputable def loop {σ ρ : Type} (step : σ → Option (σ ⊕ ρ)) (s : σ) : Option ρ := by
  classical
  exact if h : ∃ (n : Nat) (r : ρ), iter step n s = some r then some h.choose_spec.choose else none
theorem loop_of {σ ρ : Type} {step : σ → Option (σ ⊕ ρ)} {s : σ} {r : ρ} {n : Nat} (h : iter step n s = some r) : loop step s = some r := by
  unfold loop
  have h1 : ∃ (n : Nat) (r : ρ), iter step n s = some r := ⟨n, r, h⟩
  rw [dif_pos h1]
  have h2 := h1.choose_spec.choose_spec
  have h3 := iter_mono _ (max n h1.choose) s h (Nat.le_max_left _ _)
  have h4 := iter_mono _ (max n h1.choose) s h2 (Nat.le_max_right _ _)
  exact h4.symm.trans h3
theorem loop_iter {σ ρ : Type} {step : σ → Option (σ ⊕ ρ)} {s : σ} {r : ρ} (h : loop step s = some r) : ∃ n, iter step n s = some r := by
  unfold loop at h
  split at h
  · rename_i h1
    have h2 := h1.choose_spec.choose_spec
    rw [Option.some.inj h] at h2
    exact ⟨_, h2⟩
  · cases h
theorem loop_ind {σ ρ : Type} {step : σ → Option (σ ⊕ ρ)} {s : σ} {r : ρ} {P : σ → Prop} (h : loop step s = some r) (hs : ∀ s y, step s = some y → (∀ s', y = .inl s' → P s') → (∀ r', y = .inr r' → r' = r) → P s) : P s := by
  obtain ⟨n, hn⟩ := loop_iter h
  clear h
  induction n generalizing s with
  | zero => cases hn
  | succ n ih =>
    obtain ⟨y, hy, hn⟩ := bindE hn
    refine hs s y hy (fun s' e => ?_) (fun r' e => ?_)
    · subst e; exact ih hn
    · subst e; exact Option.some.inj hn
theorem loop_turn {σ ρ : Type} {step : σ → Option (σ ⊕ ρ)} {s s' : σ} (h : step s = some (.inl s')) : loop step s = loop step s' := by
  cases hl : loop step s' with
  | some r =>
    obtain ⟨n, hn⟩ := loop_iter hl
    refine loop_of (n := n + 1) ?_
    show (step s).bind _ = some r
    rw [h]; exact hn
  | none =>
    cases hl2 : loop step s with
    | none => rfl
    | some r =>
      obtain ⟨n, hn⟩ := loop_iter hl2
      cases n with
      | zero => cases hn
      | succ n =>
        obtain ⟨y, hy, hn⟩ := bindE hn
        rw [h] at hy
        cases hy
        rw [loop_of hn] at hl
        cases hl
theorem loop_end {σ ρ : Type} {step : σ → Option (σ ⊕ ρ)} {s : σ} {r : ρ} (h : step s = some (.inr r)) : loop step s = some r := by
  refine loop_of (n := 1) ?_
  show (step s).bind _ = some r
  rw [h]
  rfl
-- results
def mxI (x y : Int32) : Int32 := if x < y then y else x
def mnI (x y : Int32) : Int32 := if y < x then y else x
def abI (x : Int32) : Int32 := if 0 ≤ x then x else 0 - x
def scr (L : Nat) (xs : Nat → Int32) (i : Int32) : Option Int32 := if i < 0 ∨ L ≤ i.toNatClampNeg then none else some (xs i.toNatClampNeg)
def M00 : Mem := ([], fun _ _ => 0, fun _ _ => 0, fun _ _ => none, 0)
