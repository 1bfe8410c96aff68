/-! an instruction with its place, length, operands resolved: place, length, instruction, three numbers, a value -/
abbrev zE : Type := Nat × Nat × Instr × Nat × Nat × Nat × Value
