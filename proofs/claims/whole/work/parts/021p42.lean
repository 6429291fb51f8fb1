/-! ===== the reference: rules and rows ===== -/
def worksS (o a b : Int32) : Int32 := if o = 4 then (if a = 0 then 0 else if b = 0 then 0 else 1) else if o = 5 then (if a = 0 then (if b = 0 then 0 else 1) else 1) else if o = 6 then (if b ≤ a then 0 else 1) else if o = 7 then (if a = b then 1 else 0) else if o = 8 then a + b else if o = 9 then a - b else if o = 10 then a * b else if b = 0 then 0 else a / b
theorem F_works (o a b : Int32) (M : Mem) : F_X9_works o a b M = some (worksS o a b) := by
  unfold F_X9_works worksS
  repeat' split
  all_goals first | rfl | contradiction
def runM (fc : Nat → Int32) : List (Int32 × Int32) → List Int32 → Option (List Int32)
  | [], st => some st
  | q :: r, st => if q.1 = 1 then (if st.length < 950 then runM fc r (q.2 :: st) else none)
    else if q.1 = 2 then (if st.length < 950 ∧ ¬ q.2 < 0 ∧ q.2.toNatClampNeg < 7 then runM fc r (fc q.2.toNatClampNeg :: st) else none)
    else if q.1 = 3 then (match st with
      | t :: u => runM fc r ((if t = 0 then 1 else 0) :: u)
      | [] => none)
    else if q.1 = 0 then none else (match st with
      | b :: a :: u => runM fc r (worksS q.1 a b :: u)
      | _ => none)
def lenM : List (Int32 × Int32) → Nat
  | [] => 0
  | q :: r => if q.1 = 1 ∨ q.1 = 2 then lenM r + 2 else lenM r + 1
/-- a code lies there, and its end behind it -/
def lyM (f : Nat → Int32) : List (Int32 × Int32) → Nat → Prop
  | [], pos => f pos = 0
  | q :: r, pos => f pos = q.1 ∧ if q.1 = 1 ∨ q.1 = 2 then f (pos + 1) = q.2 ∧ lyM f r (pos + 2) else lyM f r (pos + 1)
theorem reck_run {fc : Nat → Int32} : ∀ (l : List (Int32 × Int32)) (st r : List Int32) (pos : Nat) (M : Mem), Lay M → lyM (mI M 72) l pos → pos + lenM l < 1400 → st.length ≤ 950 → stkAt (mI M 86) st → (∀ i, i < 7 → mI M 85 i = fc i) → runM fc l st = some r →
    ∃ M', loop (fun s => F_X9_reckons_s4 67 s.1 s.2.1 s.2.2) (nI st.length, nI pos, M) = some M' ∧ Wr [86] M M' ∧ stkAt (mI M' 86) r := by
  intro l
  induction l with
  | nil =>
    intro st r pos M hL hl hp hn hs hf hr
    cases hr
    refine ⟨M, loop_end ?_, Wr.rfl', hs⟩
    unfold F_X9_reckons_s4
    dsimp only
    rw [hL.gP rfl (by decide : (67, 10, 72) ∈ PT0), ob_t, hL.aI (k := 72) rfl (i := pos) (by simp [lenM] at hp; omega) (by omega), ob_t]
    have : mI M 72 pos = 0 := hl
    rw [this, if_pos rfl]
  | cons q l ih =>
    intro st r pos M hL hl hp hn hs hf hr
    obtain ⟨h1, h2⟩ := hl
    have g10 : gP M 9 67 10 = some 72 := hL.gP rfl (by decide)
    have g45 : gP M 9 67 45 = some 86 := hL.gP rfl (by decide)
    have g44 : gP M 9 67 44 = some 85 := hL.gP rfl (by decide)
    have hpos : pos < 1400 := by omega
    unfold runM at hr
    unfold lenM at hp
    have adv : ∀ (st' : List Int32) (pos' : Nat) (M' : Mem), F_X9_reckons_s4 67 (nI st.length) (nI pos) M = some (.inl (nI st'.length, nI pos', M')) → Wr [86] M M' → stkAt (mI M' 86) st' → st'.length ≤ 950 → lyM (mI M 72) l pos' → pos' + lenM l < 1400 → runM fc l st' = some r → ∃ M', loop (fun s => F_X9_reckons_s4 67 s.1 s.2.1 s.2.2) (nI st.length, nI pos, M) = some M' ∧ Wr [86] M M' ∧ stkAt (mI M' 86) r := by
      intro st' pos' M' e w k1 k2 k3 k4 k5
      rw [loop_turn (s' := (nI st'.length, nI pos', M')) e]
      obtain ⟨M2, e2, w2, k6⟩ := ih st' r pos' M' (hL.wr w) (by rw [wr_mI w (by decide)]; exact k3) k4 k2 k1 (fun i hi => by rw [wr_mI w (by decide)]; exact hf i hi) k5
      exact ⟨M2, e2, w.trans w2, k6⟩
    have hr0 : ∀ (u : List Int32) (v : Int32), stkAt (mI M 86) u → stkAt (mI (stI M 86 u.length v) 86) u := fun u v hu => hu.eq fun j hj => by rw [mI_steq, upg_ne (by omega)]
    by_cases o1 : q.1 = 1
    · rw [if_pos o1] at hr
      rw [if_pos (Or.inl o1)] at h2 hp
      split at hr
      · rename_i hlt
        refine adv (q.2 :: st) (pos + 2) (stI M 86 st.length q.2) ?_ (Wr.rfl'.st (by simp)) ⟨by rw [mI_steq, upg_eq], hr0 st _ hs⟩ (by simp; omega) h2.2 (by omega) hr
        unfold F_X9_reckons_s4 F_X9_reckons_j36_4
        simp only [g10, g45, ob_t, hL.aI (k := 72) rfl hpos (by omega), h1, if_neg (show ¬ q.1 = 0 by rw [o1]; decide), if_pos o1, nI_1, hL.aI (k := 72) rfl (i := pos + 1) (by omega) (by omega), hL.sI (k := 86) rfl hlt (by omega), h2.1, List.length_cons]
      · cases hr
    · rw [if_neg o1] at hr
      by_cases o2 : q.1 = 2
      · rw [if_pos o2] at hr
        rw [if_pos (Or.inr o2)] at h2 hp
        split at hr
        · rename_i hlt
          obtain ⟨j, hj, ej⟩ := nI_of hlt.2.1
          have hj7 : j < 7 := by have := hlt.2.2; rw [ej, nI_clamp hj] at this; exact this
          refine adv (fc q.2.toNatClampNeg :: st) (pos + 2) (stI M 86 st.length (fc q.2.toNatClampNeg)) ?_ (Wr.rfl'.st (by simp)) ⟨by rw [mI_steq, upg_eq], hr0 st _ hs⟩ (by simp; omega) h2.2 (by omega) hr
          unfold F_X9_reckons_s4 F_X9_reckons_j36_4
          simp only [g10, g45, g44, ob_t, hL.aI (k := 72) rfl hpos (by omega), h1, if_neg (show ¬ q.1 = 0 by rw [o2]; decide), if_neg o1, if_pos o2, nI_1, hL.aI (k := 72) rfl (i := pos + 1) (by omega) (by omega), h2.1, ej, nI_clamp hj, hL.aI (k := 85) rfl hj7 (by omega), hf j hj7, hL.sI (k := 86) rfl hlt.1 (by omega), List.length_cons]
        · cases hr
      · rw [if_neg o2] at hr
        rw [if_neg (fun z => z.elim o1 o2)] at h2 hp
        by_cases o3 : q.1 = 3
        · rw [if_pos o3] at hr
          cases st with
          | nil => cases hr
          | cons t u =>
            simp only [List.length_cons] at hn
            refine adv ((if t = 0 then 1 else 0) :: u) (pos + 1) (stI M 86 u.length (if t = 0 then 1 else 0)) ?_ (Wr.rfl'.st (by simp)) ⟨by rw [mI_steq, upg_eq], hr0 u _ hs.2⟩ (by simp; omega) h2 (by omega) hr
            unfold F_X9_reckons_s4
            simp only [g10, g45, ob_t, hL.aI (k := 72) rfl hpos (by omega), h1, if_neg (show ¬ q.1 = 0 by rw [o3]; decide), if_neg o1, if_neg o2, if_pos o3, nI_1, List.length_cons, nI_pred, hL.aI (k := 86) rfl (i := u.length) (by omega) (by omega), hs.1, hL.sI (k := 86) rfl (i := u.length) (by omega) (by omega)]
            split <;> rfl
        · rw [if_neg o3] at hr
          by_cases o0 : q.1 = 0
          · rw [if_pos o0] at hr; cases hr
          · rw [if_neg o0] at hr
            cases st with
            | nil => cases hr
            | cons b u' =>
              cases u' with
              | nil => cases hr
              | cons a u =>
                simp only [List.length_cons] at hn
                refine adv (worksS q.1 a b :: u) (pos + 1) (stI M 86 u.length (worksS q.1 a b)) ?_ (Wr.rfl'.st (by simp)) ⟨by rw [mI_steq, upg_eq], hr0 u _ hs.2.2⟩ (by simp; omega) h2 (by omega) hr
                have hb : mI M 86 (u.length + 1) = b := hs.1
                unfold F_X9_reckons_s4
                simp only [g10, g45, ob_t, hL.aI (k := 72) rfl hpos (by omega), h1, if_neg o0, if_neg o1, if_neg o2, if_neg o3, nI_1, List.length_cons, nI_m1, nI_pred, hL.aI (k := 86) rfl (i := u.length) (by omega) (by omega), hL.aI (k := 86) rfl (i := u.length + 1) (by omega) (by omega), F_works, hL.sI (k := 86) rfl (i := u.length) (by omega) (by omega), hs.2.1, hb]
theorem F_reckons {M : Mem} {fc : Nat → Int32} {l : List (Int32 × Int32)} {k : Nat} {v : Int32} (hL : Lay M) (hl : lyM (mI M 72) l k) (hk : k + lenM l < 1400) (hf : ∀ i, i < 7 → mI M 85 i = fc i) (hr : runM fc l [] = some [v]) : ∃ M', F_X9_reckons 67 (nI k) M = some (v, M') ∧ Wr [86] M M' := by
  obtain ⟨M', e, w, hs⟩ := reck_run l [] [v] k M hL hl hk (by simp) trivial hf hr
  refine ⟨M', ?_, w⟩
  unfold F_X9_reckons
  have e' : loop (fun s => F_X9_reckons_s4 67 s.1 s.2.1 s.2.2) ((0 : Int32), nI k, M) = some M' := e
  rw [e', ob_t, (hL.wr w).gP rfl (by decide : (67, 45, 86) ∈ PT0), ob_t]
  show (aI M' 100 86 (nI 0)).bind _ = _
  rw [(hL.wr w).aI (k := 86) rfl (i := 0) (by omega) (by omega), ob_t]
  have : mI M' 86 0 = v := hs.1
  rw [this]
