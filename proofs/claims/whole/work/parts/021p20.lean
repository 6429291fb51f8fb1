/-! ===== what the document tells, in numbers ===== -/
/-- a state: day, let in, burst; by house size, worn, who; by person heel, blisters -/
abbrev Sg : Type := Int32 × Int32 × Int32 × (Nat → Int32) × (Nat → Int32) × (Nat → Int32) × (Nat → Int32) × (Nat → Int32)
def sDay (s : Sg) : Int32 := s.1
def sWet (s : Sg) : Int32 := s.2.1
def sBur (s : Sg) : Int32 := s.2.2.1
def sSiz (s : Sg) : Nat → Int32 := s.2.2.2.1
def sWor (s : Sg) : Nat → Int32 := s.2.2.2.2.1
def sWho (s : Sg) : Nat → Int32 := s.2.2.2.2.2.1
def sHee (s : Sg) : Nat → Int32 := s.2.2.2.2.2.2.1
def sSor (s : Sg) : Nat → Int32 := s.2.2.2.2.2.2.2
/-- what a rule gives, by the facts -/
abbrev Ev : Type := (Nat → Int32) → Int32
/-- a plan: houses, people, numbers of damp; give, place, grows, damp; eases, bursts -/
abbrev Pg : Type := Nat × Nat × Nat × (Nat → Int32) × (Nat → Int32) × (Nat → Int32) × (Nat → Int32) × Option Ev × Option Ev
def gH (g : Pg) : Nat := g.1
def gN (g : Pg) : Nat := g.2.1
def gD (g : Pg) : Nat := g.2.2.1
def gGiv (g : Pg) : Nat → Int32 := g.2.2.2.1
def gStr (g : Pg) : Nat → Int32 := g.2.2.2.2.1
def gGro (g : Pg) : Nat → Int32 := g.2.2.2.2.2.1
def gDam (g : Pg) : Nat → Int32 := g.2.2.2.2.2.2.1
def gEas (g : Pg) : Option Ev := g.2.2.2.2.2.2.2.1
def gBur (g : Pg) : Option Ev := g.2.2.2.2.2.2.2.2
/-- all numbers are as small as they are told -/
def GdP (g : Pg) : Prop := gH g ≤ 8 ∧ gN g ≤ 8 ∧ gD g ≤ 8 ∧ (∀ h, h < gH g → bnd (gGiv g h) 0 9 ∧ bnd (gStr g h) 0 30) ∧ (∀ p, p < gN g → bnd (gGro g p) 0 9) ∧ ∀ i, i < gD g → bnd (gDam g i) 0 9
/-- nobody, or a person who is in no other house; whoever is in a house, it isn't burst -/
def GdS (B : Int) (g : Pg) (s : Sg) : Prop := bnd (sDay s) 0 B ∧ (sWet s = 0 ∨ sWet s = 1) ∧ (∀ h, h < gH g → bnd (sSiz s h) 1 60 ∧ bnd (sWor s h) 0 99 ∧ (sWho s h = -1 ∨ ∃ p, p < gN g ∧ sWho s h = nI p)) ∧ (∀ p, p < gN g → bnd (sHee s p) 1 99 ∧ bnd (sSor s p) 0 999) ∧
  (∀ h k, h < gH g → k < gH g → sWho s h = sWho s k → sWho s h ≠ -1 → h = k) ∧ (∀ h, h < gH g → sWho s h ≠ -1 → bitI (sBur s) h = false) ∧ ∀ k, gH g ≤ k → bitI (sBur s) k = false
def toldD (g : Pg) (d : Int32) : Int32 := if gD g = 0 then 3 else gDam g (d.toNatClampNeg % gD g)
def dampS (g : Pg) (s : Sg) : Int32 := if sWet s = 0 then toldD g (sDay s) else 9
def tightS (s : Sg) (p h : Nat) : Int32 := mxI 0 (sHee s p - sSiz s h)
def facS (g : Pg) (s : Sg) (p h : Nat) (d : Int32) (k : Nat) : Int32 := if k = 0 then sHee s p else if k = 1 then sSiz s h else if k = 2 then gGiv g h else if k = 3 then sWor s h else if k = 4 then d else if k = 5 then sDay s else tightS s p h
def easeS (g : Pg) (s : Sg) (p h : Nat) (d : Int32) : Int32 := match gEas g with
  | none => gGiv g h + d + sWor s h / 10
  | some f => mnI 30 (mxI 0 (f (facS g s p h d)))
def burS (s : Sg) (h : Nat) : Prop := bitI (sBur s) h = true
def goS (g : Pg) (s : Sg) (p h : Nat) (d : Int32) : Prop := ¬ burS s h ∧ ¬ easeS g s p h d < tightS s p h
/-- one who wears it: by how much the rule lets it burst -/
def brkS (g : Pg) (s : Sg) (p h : Nat) (d : Int32) (t : Int32) : Int32 := match gBur g with
  | none => t - 9 - gGiv g h
  | some f => f (facS g s p h d)
def w1S (s : Sg) (h p : Nat) (t : Int32) : Sg := (sDay s, sWet s, sBur s, sSiz s, upg (sWor s) h (mnI 99 (sWor s h + t)), sWho s, sHee s, upg (sSor s) p (mnI 999 (sSor s p + t)))
def w2S (s : Sg) (h : Nat) : Sg := (sDay s, sWet s, sBur s ||| one h, sSiz s, sWor s, upg (sWho s) h (-1), sHee s, sSor s)
def wearS (g : Pg) (s : Sg) (h : Nat) (d : Int32) : Sg :=
  if sWho s h = -1 then s else
    if brkS g (w1S s h (sWho s h).toNatClampNeg (tightS s (sWho s h).toNatClampNeg h)) (sWho s h).toNatClampNeg h d (tightS s (sWho s h).toNatClampNeg h) ≤ 0 then w1S s h (sWho s h).toNatClampNeg (tightS s (sWho s h).toNatClampNeg h)
    else w2S (w1S s h (sWho s h).toNatClampNeg (tightS s (sWho s h).toNatClampNeg h)) h
def growS (g : Pg) (s : Sg) (p : Nat) : Sg := (sDay s, sWet s, sBur s, sSiz s, sWor s, sWho s, upg (sHee s) p (mnI 99 (sHee s p + gGro g p)), sSor s)
def wearN (g : Pg) (d : Int32) : Nat → Sg → Sg
  | 0, s => s
  | n + 1, s => wearS g (wearN g d n s) n d
def growN (g : Pg) : Nat → Sg → Sg
  | 0, s => s
  | n + 1, s => growS g (growN g n s) n
def tickS (s : Sg) : Sg := (sDay s + 1, 0, sBur s, sSiz s, sWor s, sWho s, sHee s, sSor s)
def dayS (g : Pg) (d : Int32) (s : Sg) : Sg := tickS (growN g (gN g) (wearN g d (gH g) s))
def passS (g : Pg) (s : Sg) : Sg := dayS g (dampS g s) s
def passN (g : Pg) : Nat → Sg → Sg
  | 0, s => s
  | n + 1, s => passS g (passN g n s)
/-- where one is: the least house that has one -/
def hOf (w : Nat → Int32) (p : Nat) : Nat → Int32
  | 0 => -1
  | n + 1 => if hOf w p n ≠ -1 then hOf w p n else if w n = nI p then nI n else -1
def wheS (g : Pg) (s : Sg) (p : Nat) : Int32 := hOf (sWho s) p (gH g)
-- rules, as the class has them: what stands behind what it joins
def joinS (x a b : Int32) : Int32 := if x = -15 then (if b ≤ a then 0 else 1) else if x = -14 then (if b = 0 then 0 else a / b) else if x = -13 then a * b else if x = -12 then a - b else if x = -11 then a + b else if x = -10 then (if a = 0 then (if b = 0 then 0 else 1) else 1) else if x = -9 then (if a = 0 then 0 else if b = 0 then 0 else 1) else if a = b then 1 else 0
theorem F_join (x a b : Int32) (M : Mem) : F_X4_join x a b M = some (joinS x a b) := by
  unfold F_X4_join joinS
  repeat' split
  all_goals first | rfl | contradiction
def stepC (fc : Nat → Int32) (st : List Int32) (x : Int32) : List Int32 :=
  if x < -7 then (if x = -8 then (match st with
      | t :: r => (if t = 0 then 1 else 0) :: r
      | [] => [])
    else match st with
      | b :: a :: r => joinS x a b :: r
      | r => r)
  else (if x < 0 then fc (-1 - x).toNatClampNeg else x) :: st
def runC (fc : Nat → Int32) (c : List Int32) (st : List Int32) : List Int32 := c.foldl (stepC fc) st
/-- a code that gives what f does, within 32 places -/
def DenC (c : List Int32) (f : Ev) : Prop := (∀ x ∈ c, ¬ x < -16) ∧ ∀ fc, runC fc c [] = [f fc] ∧ ∀ k, k ≤ c.length → (runC fc (c.take k) []).length ≤ 32
