/-! ===== what is seen, by the reference, all days ===== -/
section
variable {M M' : Mem} {p u h n : Nat} {g : Pg} {s s' : Sg} {D : Int} {E : List Se} {v : Int32}
def alS (g : Pg) (s' : Sg) (E : List Se) : Prop := ∀ e, e ∈ E → sWor (passN g e.2.1 s') e.1 = e.2.2
theorem SeM.qw (hs : SeM M (mI M 67 51) 91 E) (w : QW M M') : SeM M' (mI M' 67 51) 91 E := by
  have e1 : mI M' 67 51 = mI M 67 51 := w.2.2.2.2 67 51 (by unfold Sc ScL; simp)
  have e2 : mI M' 91 = mI M 91 := w.row (by decide) (by decide) (by decide)
  rw [e1]; unfold SeM; rw [e2]; exact hs
theorem WB.k9 (w : WB 43 M M') {k : Nat} (hk : k = 92 ∨ k = 93) : mI M' k = mI M k := w.2.2.2.2.1 k (by rcases hk with e | e <;> subst e <;> decide)
theorem M_isSeen (m : MLa M g s s' 999) (hs : SeM M (mI M 67 51) 91 E) (hE : ∀ e, e ∈ E → e.1 < gH g ∧ e.2.1 ≤ 20) : ∃ r, F_X9_isSeen 67 M = some r ∧ MZu r.2 g s ∧ QW M r.2 ∧ mI r.2 93 = mI M 93 ∧ ((r.1 = 1 ∧ alS g s' E ∧ ∀ h, h < gH g → mI r.2 92 h = sWor (passN g 5 s') h) ∨ (r.1 = 0 ∧ ¬ alS g s' E)) := by
  have g1 := m.1.b.gp.1
  obtain ⟨r, e, hr⟩ := loop_ex (step := fun z : Int32 × Mem => F_X9_isSeen_s2 67 z.1 z.2) (fun d z => z.1 = nI d ∧ MLa z.2 g s (passN g d s') (999 + d) ∧ QW M z.2 ∧ mI z.2 93 = mI M 93 ∧ (∀ e, e ∈ E → e.2.1 < d → sWor (passN g e.2.1 s') e.1 = e.2.2) ∧ (5 < d → ∀ h, h < gH g → mI z.2 92 h = sWor (passN g 5 s') h)) (fun r => (∃ M', r = .inl M' ∧ MZu M' g s ∧ QW M M' ∧ mI M' 93 = mI M 93 ∧ alS g s' E ∧ ∀ h, h < gH g → mI M' 92 h = sWor (passN g 5 s') h) ∨ (∃ M', r = .inr (0, M') ∧ MZu M' g s ∧ QW M M' ∧ mI M' 93 = mI M 93 ∧ ¬ alS g s' E)) 21 (by
    rintro d ⟨x, M1⟩ hd ⟨z1, m1, w1, l1, a1, b1⟩
    dsimp only at z1 m1 w1 l1 a1 b1
    subst z1
    unfold F_X9_isSeen_s2
    dsimp only
    by_cases d2 : d = 21
    · subst d2
      left
      rw [if_pos (show (20 : Int32) < nI 21 from nI_lt (a := 20) (by omega) (by omega))]
      exact ⟨_, rfl, Or.inl ⟨M1, rfl, m1.1, w1, l1, fun e he => a1 e he (by have := (hE e he).2; omega), b1 (by omega)⟩⟩
    · rw [if_neg (show ¬ (20 : Int32) < nI d from nI_nlt (b := d) (a := 20) (by omega) (by omega))]
      rcases M_seen1 (d := d) m1 (hs.qw w1) hE (by omega) with ⟨y, ye⟩ | ⟨⟨e, y1, y2, y3⟩, ye⟩
      · right
        refine ⟨by omega, ?_⟩
        have a2 : ∀ e, e ∈ E → e.2.1 < d + 1 → sWor (passN g e.2.1 s') e.1 = e.2.2 := fun e he hl => by
          by_cases c : e.2.1 = d
          · rw [c]; exact y e he c
          · exact a1 e he (by omega)
        rw [ye, ob_t, el_l]
        by_cases d5 : d = 5
        · subst d5
          obtain ⟨M2, e2, w2, h2⟩ := M_soon m1
          obtain ⟨m2, q2⟩ := m1.w9 w2 (by decide)
          obtain ⟨M3, e3, m3, w3⟩ := m2.day' (by omega)
          rw [if_pos (show nI 5 = (5 : Int32) from rfl), e2, ob_t, Lc_67 m2.1.lay, e3, ob_t, nI_1]
          refine ⟨_, rfl, rfl, m3.mono (by omega), (w1.trans q2).trans w3.qw, ?_, a2, fun _ h hh => ?_⟩
          · dsimp only; rw [w3.k9 (Or.inr rfl), wr_mI w2 (by decide)]; exact l1
          · dsimp only; rw [w3.k9 (Or.inl rfl)]; exact h2 h hh
        · obtain ⟨M3, e3, m3, w3⟩ := m1.day' (by omega)
          rw [if_neg (show ¬ nI d = (5 : Int32) from fun z => d5 ((nI_eq (b := 5) (by omega) (by omega)).mp z)), Lc_67 m1.1.lay, e3, ob_t, nI_1]
          refine ⟨_, rfl, rfl, m3.mono (by omega), w1.trans w3.qw, ?_, a2, fun h5 h hh => ?_⟩
          · dsimp only; rw [w3.k9 (Or.inr rfl)]; exact l1
          · dsimp only; rw [w3.k9 (Or.inl rfl)]; exact b1 (by omega) h hh
      · left
        rw [ye, ob_t, el_r]
        exact ⟨_, rfl, Or.inr ⟨M1, rfl, m1.1, w1, l1, fun q => y3 (by have := q e y1; rw [y2] at this; exact this)⟩⟩) (s := ((0 : Int32), M)) ⟨rfl, m.mono (by omega), QW.rfl', rfl, fun e _ z => by omega, fun z => by omega⟩
  unfold F_X9_isSeen
  rw [e, ob_t]
  rcases hr with ⟨M', y, y1, y2, y3, y4, y5⟩ | ⟨M', y, y1, y2, y3, y4⟩
  · subst y
    exact ⟨(1, M'), rfl, y1, y2, y3, Or.inl ⟨rfl, y4, y5⟩⟩
  · subst y
    exact ⟨(0, M'), rfl, y1, y2, y3, Or.inr ⟨rfl, y4⟩⟩
theorem al_ag (hE : ∀ e, e ∈ E → e.1 < gH g) : alS g s' E ↔ ∀ h, h < gH g → agr g s' E h :=
  ⟨fun z h _ e he y => by rw [← y]; exact z e he, fun z e he => z e.1 (hE e he) e he rfl⟩
theorem MLa.hs (m : MLa M g s s' D) (hu : u < gN g) (hv : bnd v 1 99) : sI M 100 83 (70 + nI u) v = some (stI M 83 (43 + 27 + u) v) ∧ MLa (stI M 83 (43 + 27 + u) v) g s (hsS s' u v) D ∧ WB 43 M (stI M 83 (43 + 27 + u) v) := by
  have g1 := m.1.b.gp.1
  have g2 := m.1.b.gp.2.1
  have wb : WB 43 M (stI M 83 (43 + 27 + u) v) := WB.rfl'.st (by omega) (by omega)
  refine ⟨m.2.sw (c := 27) (by omega), ⟨m.1.wb wb, m.2.of wb ?_ (m.2.gd.hs hv)⟩, wb⟩
  rw [mI_steq]
  obtain ⟨r1, r2, r3, r4, r5⟩ := m.2.rw
  refine ⟨?_, ?_, ?_, fun k hk => ⟨?_, ?_, ?_⟩, fun k hk => ⟨?_, ?_⟩⟩
  · rw [upg_ne (by omega)]; exact r1
  · rw [upg_ne (by omega)]; exact r2
  · rw [upg_ne (by omega)]; exact r3
  · rw [upg_ne (by omega)]; exact (r4 k hk).1
  · rw [upg_ne (by omega)]; exact (r4 k hk).2.1
  · rw [upg_ne (by omega)]; exact (r4 k hk).2.2
  · show _ = upg (sHee s') u v k
    by_cases e : k = u
    · subst e; rw [upg_eq, upg_eq]
    · rw [upg_ne (by omega), upg_ne e]; exact (r5 k hk).1
  · rw [upg_ne (by omega)]; exact (r5 k hk).2
end
