/-! ===== the least size ===== -/
section
variable {M M' : Mem} {p u h n : Nat} {g : Pg} {s s' : Sg} {D : Int} {E : List Se}
theorem lg_eq {a b : Int64} : lg_cmp a b = 0 ↔ a = b := by
  constructor
  · intro z
    refine Classical.byContradiction fun c => ?_
    unfold lg_cmp at z
    by_cases d : a > b
    · rw [if_pos d] at z; exact absurd z (by decide)
    · rw [if_neg d, if_neg c] at z; exact absurd z (by decide)
  · intro z; rw [z]; exact lgc
theorem and1 {y : Int64} : y &&& 1 = 1 ↔ y.toBitVec.getLsbD 0 = true := by
  have o : ∀ i, i < 64 → (1 : Int64).toBitVec.getLsbD i = decide (i = 0) := by decide +kernel
  constructor
  · intro z
    have : (y &&& 1).toBitVec.getLsbD 0 = (1 : Int64).toBitVec.getLsbD 0 := by rw [z]
    rw [Int64.toBitVec_and, BitVec.getLsbD_and, o 0 (by omega)] at this
    simpa using this
  · intro z
    refine Int64.toBitVec_inj.mp (BitVec.eq_of_getLsbD_eq fun i hi => ?_)
    rw [Int64.toBitVec_and, BitVec.getLsbD_and, o i hi]
    by_cases e : i = 0
    · subst e; rw [z]; rfl
    · rw [decide_eq_false e]; simp
theorem shr64 {x : Int64} {z : Nat} (hz : z < 63) : lg_cmp ((x >>> ((nI z).toInt64 &&& 63)) &&& 1) 1 = 0 ↔ (tN x).testBit z = true := by
  have e : ∀ k, k < 63 → (((nI k).toInt64 &&& 63).toBitVec.smod 64#64) = BitVec.ofNat 64 k := by decide +kernel
  have e1 : (x >>> ((nI z).toInt64 &&& 63)).toBitVec = x.toBitVec.sshiftRight z := by
    rw [Int64.toBitVec_shiftRight]
    show BitVec.sshiftRight' _ (((nI z).toInt64 &&& 63).toBitVec.smod 64#64) = _
    rw [e z hz]
    unfold BitVec.sshiftRight'
    rw [BitVec.toNat_ofNat, Nat.mod_eq_of_lt (by omega)]
  rw [lg_eq, and1, e1, BitVec.getLsbD_sshiftRight]
  have a1 : decide (64 ≤ 0) = false := by decide
  rw [a1, if_pos (by omega), Bool.not_false, Bool.true_and, Nat.add_zero]
  exact Iff.rfl
theorem C_least {x : Int64} (h : ∃ z, 1 ≤ z ∧ z ≤ 60 ∧ (tN x).testBit z = true) : ∃ z, 1 ≤ z ∧ z ≤ 60 ∧ (tN x).testBit z = true ∧ (∀ k, 1 ≤ k → k < z → ¬ (tN x).testBit k = true) ∧ F_X8_leastSize x M = some (nI z) := by
  obtain ⟨-, e, -⟩ := loop_f (step := fun z : Int32 => F_X8_leastSize_s2 x M z) (fun i _ => nI (i + 1)) (fun _ => .inl ()) (fun i _ => .inr (nI (i + 1))) (fun i => (tN x).testBit (i + 1) = true) (fun _ _ => True) (fun _ => True) 60 (by
    intro i _ hi _
    unfold F_X8_leastSize_s2
    rw [if_neg (show ¬ (60 : Int32) < nI (i + 1) from nI_nlt (b := i + 1) (a := 60) (by omega) (by omega)), nI_1]
    by_cases c : (tN x).testBit (i + 1) = true
    · rw [if_pos ((shr64 (by omega)).mpr c)]; exact Or.inl ⟨c, M, rfl, trivial⟩
    · rw [if_neg (fun y => c ((shr64 (by omega)).mp y))]; exact Or.inr ⟨c, M, rfl, trivial⟩) (by
    intro _ _
    refine ⟨?_, trivial⟩
    unfold F_X8_leastSize_s2
    rw [if_pos (show (60 : Int32) < nI (60 + 1) from nI_lt (a := 60) (by omega) (by omega))]) 60 0 M rfl trivial
  have lt : fsN (fun i => (tN x).testBit (i + 1) = true) 60 0 < 60 := by
    obtain ⟨z, h1, h2, h3⟩ := h
    refine Classical.byContradiction fun c => ?_
    exact fsN_lt (P := fun i => (tN x).testBit (i + 1) = true) 60 0 (z - 1) (by omega) (by omega) (by rw [show z - 1 + 1 = z by omega]; exact h3)
  rw [if_pos lt] at e
  refine ⟨fsN (fun i => (tN x).testBit (i + 1) = true) 60 0 + 1, by omega, by omega, fsN_at (P := fun i => (tN x).testBit (i + 1) = true) 60 0 (by omega), fun k h1 h2 => ?_, ?_⟩
  · have := fsN_lt (P := fun i => (tN x).testBit (i + 1) = true) 60 0 (k - 1) (by omega) (by omega)
    rw [show k - 1 + 1 = k by omega] at this; exact this
  · unfold F_X8_leastSize
    have e' : loop (fun z : Int32 => F_X8_leastSize_s2 x M z) (1 : Int32) = _ := e
    rw [e', ob_t]; rfl
end
