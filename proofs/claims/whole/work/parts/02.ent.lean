/-! A PLAIN MACHINE: its words. -/
/-- an entry of a method's code: pc, instruction, length, four numbers that say what it links to, a word's place, an int and a long -/
abbrev Ent : Type := Nat × Instr × Nat × Nat × Nat × Nat × Nat × Int32 × Int64
/-- name, bytes, locals, what it answers, what it makes at most (cells, slots), its code in rows of sixteen bytes, the places of its words (code, initialized, instance or static, selects), how many arguments, static 0, virtual 1, constructor 2, the law 3 -/
abbrev Mth : Type := MethodName × ByteArray × Nat × Option FieldType × (Nat × Nat) × List (List Ent) × (Nat × Nat × Nat × Nat) × Nat × Nat
def txL : List (String × Nat × String) := [("ThreeToSend$Reader", 20, ""), ("ThreeToSend", 126, "gah"), ("ThreeToSend$Reader", 117, "0123456789"), ("ThreeToSend$Reader", 123, "tnsbflmexuqoypkj"), ("ThreeToSend$Reader", 105, "<>="), ("ThreeToSend$Reader", 110, "+-"), ("ThreeToSend$Reader", 115, "*/%"), ("ThreeToSend", 135, "o"), ("ThreeToSend", 140, "c")]
def txB : List (List Int32) := [[], [103, 97, 104], [48, 49, 50, 51, 52, 53, 54, 55, 56, 57], [116, 110, 115, 98, 102, 108, 109, 101, 120, 117, 113, 111, 121, 112, 107, 106], [60, 62, 61], [43, 45], [42, 47, 37], [111], [99]]
def txN : List Nat := [0, 3, 10, 16, 3, 2, 3, 1, 1]
