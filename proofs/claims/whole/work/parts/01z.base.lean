/-! THE MINI MACHINE: a pure picture of the machine's state. Places instead of addresses, Int with wrap instead of Int32, BitVec 64 instead of Int64. -/
abbrev mj_R : Type := Nat ⊕ Nat
abbrev mj_V : Type := Int ⊕ (BitVec 64 ⊕ mj_R)
abbrev mj_Sh : Type := Nat → Nat × Nat
abbrev mj_FI : Type := Nat → Nat → Int
abbrev mj_FR : Type := Nat → Nat → mj_R
abbrev mj_LA : Type := Nat → Nat → BitVec 64
abbrev mj_L : Type := List (Option mj_V)
abbrev mj_K : Type := Nat → mj_L → List mj_V → mj_Sh → mj_FR → mj_FI → mj_LA → Nat → Nat → Nat → Prop
abbrev mj_O : Type := Option mj_V ⊕ Nat
abbrev mj_Q : Type := mj_O → mj_Sh → mj_FR → mj_FI → mj_LA → Nat → Prop
abbrev mj_Sem : Type := mj_Q → mj_K → mj_K
/-- a method: name, bytes, locals, what it returns, its room, its handlers -/
abbrev mj_M : Type := MethodName × ByteArray × Nat × Option FieldType × Room × List (Nat × Nat × Nat × Nat) × Nat × (Nat → Int)
/-- the script (address, length, ints) and the static table's address -/
abbrev mj_B : Type := (Nat × Nat × (Nat → Int32)) × Nat
