/-! numbers for values, cells, code -/
abbrev AV : Type := Nat × Int
abbrev SHP : Type := List (Nat × Nat)
abbrev MEM : Type := Int → Int → Int
abbrev INS : Type := Nat × Nat × Jvm.ClassFile.Instr × Nat × List Nat
abbrev RES : Type := Int → SHP → MEM → MEM → Prop
abbrev CLL : Type := Nat → List AV → SHP → MEM → MEM → Nat → Nat → RES → Prop
abbrev NXT : Type := List AV → List AV → SHP → MEM → MEM → Nat → Nat → Prop
