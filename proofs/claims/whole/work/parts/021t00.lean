/-! WANTING: the rows still to be proved, stated -/
section
variable {M : Mem} {p m : Nat} {g : Pg} {s : Sg} {L : List Sg} {E : List Se} {I : Option (Sg × List Sg × List Se)} {R : Nat → Int32} {T : List Nat} {f : Int32}
theorem A_town (hc : CI M p g s L E I R T f) (hm : MI M g s L E I R T f) (hr : Rm M m) (hm5 : m < 512) (x : Int32) : LF m (F_L_town 0 x 97 M) (F_X9_town 67 x) := by sorry
end
