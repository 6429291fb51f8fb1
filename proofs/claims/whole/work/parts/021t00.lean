/-! WANTING: the rows still to be proved, stated -/
section
variable {M : Mem} {p m : Nat} {g : Pg} {s : Sg} {L : List Sg} {E : List Se} {I : Option (Sg × List Sg × List Se)} {R : Nat → Int32} {T : List Nat} {f : Int32}
end
