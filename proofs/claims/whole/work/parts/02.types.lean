/-! an instruction, with three numbers of ours: 0 ordinary, 1 a call, 2 a return; a place; a number -/
abbrev ab_E : Type := Instr × (Nat × (Nat × Int))
