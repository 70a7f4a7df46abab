/-! The walk of the bytecode as a function of Lean: its types. A value: what it is (0 int, 1 long, 2 reference, 3 double), and a number; a cell: its kind (a class's place in vwCl; 50 int[], 52 an array of references), and its numbers. -/
abbrev zv_V : Type := Nat × Int
abbrev zv_C : Type := Nat × List Int
abbrev zv_H : Type := List zv_C
abbrev zv_F : Type := Nat × Nat × List zv_V × List zv_V × zv_H
abbrev zv_R : Type := Nat × zv_V × zv_H
abbrev zv_S : Type := zv_F ⊕ ((Nat × List zv_V × zv_F) ⊕ zv_R)
/-- an instruction: pc, itself, its length, three places, a number -/
abbrev ze_E : Type := Nat × Instr × Nat × Nat × Nat × Nat × Int
/-- a method: name, bytes, locals, what it returns, that as a number, its arguments (with this), places of its words -/
abbrev zm_M : Type := MethodName × ByteArray × Nat × Option FieldType × Nat × Nat × Nat × Nat × Nat × Nat × Nat
